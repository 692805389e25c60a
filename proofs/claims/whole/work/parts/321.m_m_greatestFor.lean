theorem dX12_greatestFor_0 : decode cX12_greatestFor 0 = .ok (.aload_n 0, 1) := by decide +kernel
theorem dX12_greatestFor_1 : decode cX12_greatestFor 1 = .ok (.getfield 72, 3) := by decide +kernel
theorem dX12_greatestFor_4 : decode cX12_greatestFor 4 = .ok (.iload_n 1, 1) := by decide +kernel
theorem dX12_greatestFor_5 : decode cX12_greatestFor 5 = .ok (.iaload, 1) := by decide +kernel
theorem dX12_greatestFor_6 : decode cX12_greatestFor 6 = .ok (.istore_n 2, 1) := by decide +kernel
theorem dX12_greatestFor_7 : decode cX12_greatestFor 7 = .ok (.iconst 0, 1) := by decide +kernel
theorem dX12_greatestFor_8 : decode cX12_greatestFor 8 = .ok (.istore_n 3, 1) := by decide +kernel
theorem dX12_greatestFor_9 : decode cX12_greatestFor 9 = .ok (.iconst 0, 1) := by decide +kernel
theorem dX12_greatestFor_10 : decode cX12_greatestFor 10 = .ok (.istore 4, 2) := by decide +kernel
theorem dX12_greatestFor_12 : decode cX12_greatestFor 12 = .ok (.iconst 0, 1) := by decide +kernel
theorem dX12_greatestFor_13 : decode cX12_greatestFor 13 = .ok (.istore 5, 2) := by decide +kernel
theorem dX12_greatestFor_15 : decode cX12_greatestFor 15 = .ok (.iload 5, 2) := by decide +kernel
theorem dX12_greatestFor_17 : decode cX12_greatestFor 17 = .ok (.aload_n 0, 1) := by decide +kernel
theorem dX12_greatestFor_18 : decode cX12_greatestFor 18 = .ok (.getfield 43, 3) := by decide +kernel
theorem dX12_greatestFor_21 : decode cX12_greatestFor 21 = .ok (.iconst 4, 1) := by decide +kernel
theorem dX12_greatestFor_22 : decode cX12_greatestFor 22 = .ok (.iaload, 1) := by decide +kernel
theorem dX12_greatestFor_23 : decode cX12_greatestFor 23 = .ok (.if_icmp .gt 46, 3) := by decide +kernel
theorem dX12_greatestFor_26 : decode cX12_greatestFor 26 = .ok (.aload_n 0, 1) := by decide +kernel
theorem dX12_greatestFor_27 : decode cX12_greatestFor 27 = .ok (.getfield 72, 3) := by decide +kernel
theorem dX12_greatestFor_30 : decode cX12_greatestFor 30 = .ok (.iload_n 1, 1) := by decide +kernel
theorem dX12_greatestFor_31 : decode cX12_greatestFor 31 = .ok (.iload 5, 2) := by decide +kernel
theorem dX12_greatestFor_33 : decode cX12_greatestFor 33 = .ok (.iastore, 1) := by decide +kernel
theorem dX12_greatestFor_34 : decode cX12_greatestFor 34 = .ok (.aload_n 0, 1) := by decide +kernel
theorem dX12_greatestFor_35 : decode cX12_greatestFor 35 = .ok (.iload_n 1, 1) := by decide +kernel
theorem dX12_greatestFor_36 : decode cX12_greatestFor 36 = .ok (.invokevirtual 348, 3) := by decide +kernel
theorem dX12_greatestFor_39 : decode cX12_greatestFor 39 = .ok (.istore 6, 2) := by decide +kernel
theorem dX12_greatestFor_41 : decode cX12_greatestFor 41 = .ok (.iload 5, 2) := by decide +kernel
theorem dX12_greatestFor_43 : decode cX12_greatestFor 43 = .ok (.ifCond .le 13, 3) := by decide +kernel
theorem dX12_greatestFor_46 : decode cX12_greatestFor 46 = .ok (.iload 6, 2) := by decide +kernel
theorem dX12_greatestFor_48 : decode cX12_greatestFor 48 = .ok (.iload 4, 2) := by decide +kernel
theorem dX12_greatestFor_50 : decode cX12_greatestFor 50 = .ok (.if_icmp .gt 6, 3) := by decide +kernel
theorem dX12_greatestFor_53 : decode cX12_greatestFor 53 = .ok (.goto 10, 3) := by decide +kernel
theorem dX12_greatestFor_56 : decode cX12_greatestFor 56 = .ok (.iload 5, 2) := by decide +kernel
theorem dX12_greatestFor_58 : decode cX12_greatestFor 58 = .ok (.istore_n 3, 1) := by decide +kernel
theorem dX12_greatestFor_59 : decode cX12_greatestFor 59 = .ok (.iload 6, 2) := by decide +kernel
theorem dX12_greatestFor_61 : decode cX12_greatestFor 61 = .ok (.istore 4, 2) := by decide +kernel
theorem dX12_greatestFor_63 : decode cX12_greatestFor 63 = .ok (.iinc 5 1, 3) := by decide +kernel
theorem dX12_greatestFor_66 : decode cX12_greatestFor 66 = .ok (.goto (-51), 3) := by decide +kernel
theorem dX12_greatestFor_69 : decode cX12_greatestFor 69 = .ok (.aload_n 0, 1) := by decide +kernel
theorem dX12_greatestFor_70 : decode cX12_greatestFor 70 = .ok (.getfield 72, 3) := by decide +kernel
theorem dX12_greatestFor_73 : decode cX12_greatestFor 73 = .ok (.iload_n 1, 1) := by decide +kernel
theorem dX12_greatestFor_74 : decode cX12_greatestFor 74 = .ok (.iload_n 2, 1) := by decide +kernel
theorem dX12_greatestFor_75 : decode cX12_greatestFor 75 = .ok (.iastore, 1) := by decide +kernel
theorem dX12_greatestFor_76 : decode cX12_greatestFor 76 = .ok (.iload_n 3, 1) := by decide +kernel
theorem dX12_greatestFor_77 : decode cX12_greatestFor 77 = .ok (.ireturn, 1) := by decide +kernel
def m_greatestFor_69 (N : Nat) (x1 x2 x3 : Int) (w : aw_W) : Option (Int × aw_W) :=
  if 0 ≤ x1 ∧ x1 < 6 then
    some (x3, (aw_up w 64 x1.toNat x2))
  else none
theorem w_m_greatestFor_69 {l : Launch} {K : aw_K} (N d : Nat) (hd : 3 ≤ d) : ∀ (x1 x2 x3 : Int) (w : aw_W) (y : Int) (v : aw_W), m_greatestFor_69 N x1 x2 x3 w = some (y, v) → aw_AW l K MX12_greatestFor (d + 1) 69 [(0, .inr (.inr 49)), (1, .inl x1), (2, .inl x2), (3, .inl x3)] [] w (some (.inl y), v) := by
  intro x1 x2 x3 w y v h
  unfold m_greatestFor_69 at h
  refine aw_aload_n (pc := 69) (q := 0) dX12_greatestFor_69 rfl ?_
  refine aw_getf (pc := 70) (v := .inr (.inr 64)) dX12_greatestFor_70 fl_RX12_72 (by decide) rfl rfl rfl ?_
  refine aw_iload_n (pc := 73) (q := 1) dX12_greatestFor_73 rfl ?_
  refine aw_iload_n (pc := 74) (q := 2) dX12_greatestFor_74 rfl ?_
  obtain ⟨hb, h⟩ := aw_cks h
  refine aw_iast (pc := 75) dX12_greatestFor_75 rfl hb.1 hb.2 ?_
  refine aw_iload_n (pc := 76) (q := 3) dX12_greatestFor_76 rfl ?_
  cases h
  exact aw_iret (pc := 77) rfl dX12_greatestFor_77
def m_greatestFor_63 (N : Nat) (k15 : Int → Int → Int → Int → Int → aw_W → Option (Int × aw_W)) (x1 x2 x3 x4 x5 : Int) (w : aw_W) : Option (Int × aw_W) :=
  k15 x1 x2 x3 x4 (aw_w (x5 + 1)) w
theorem w_m_greatestFor_63 {l : Launch} {K : aw_K} (N d : Nat) (hd : 3 ≤ d) (k15 : Int → Int → Int → Int → Int → aw_W → Option (Int × aw_W)) (hk15 : ∀ (x1 x2 x3 x4 x5 : Int) (w : aw_W) (y : Int) (v : aw_W), k15 x1 x2 x3 x4 x5 w = some (y, v) → aw_AW l K MX12_greatestFor (d + 1) 15 [(0, .inr (.inr 49)), (1, .inl x1), (2, .inl x2), (3, .inl x3), (4, .inl x4), (5, .inl x5)] [] w (some (.inl y), v)) : ∀ (x1 x2 x3 x4 x5 : Int) (w : aw_W) (y : Int) (v : aw_W), m_greatestFor_63 N k15 x1 x2 x3 x4 x5 w = some (y, v) → aw_AW l K MX12_greatestFor (d + 1) 63 [(0, .inr (.inr 49)), (1, .inl x1), (2, .inl x2), (3, .inl x3), (4, .inl x4), (5, .inl x5)] [] w (some (.inl y), v) := by
  intro x1 x2 x3 x4 x5 w y v h
  unfold m_greatestFor_63 at h
  refine aw_iinc (pc := 63) (q := 5) (ls' := [(5, .inl (aw_w (x5 + 1))), (0, .inr (.inr 49)), (1, .inl x1), (2, .inl x2), (3, .inl x3), (4, .inl x4)]) dX12_greatestFor_63 rfl (by decide) rfl ?_
  refine aw_goto (pc := 66) (tgt := 15) dX12_greatestFor_66 (by decide) ?_
  exact aw_sel [1, 2, 3, 4, 5, 0] rfl (hk15 _ _ _ _ _ _ _ _ h)
def m_greatestFor_56 (N : Nat) (k15 : Int → Int → Int → Int → Int → aw_W → Option (Int × aw_W)) (x1 x2 x5 x6 : Int) (w : aw_W) : Option (Int × aw_W) :=
  m_greatestFor_63 N k15 x1 x2 x5 x6 x5 w
theorem w_m_greatestFor_56 {l : Launch} {K : aw_K} (N d : Nat) (hd : 3 ≤ d) (k15 : Int → Int → Int → Int → Int → aw_W → Option (Int × aw_W)) (hk15 : ∀ (x1 x2 x3 x4 x5 : Int) (w : aw_W) (y : Int) (v : aw_W), k15 x1 x2 x3 x4 x5 w = some (y, v) → aw_AW l K MX12_greatestFor (d + 1) 15 [(0, .inr (.inr 49)), (1, .inl x1), (2, .inl x2), (3, .inl x3), (4, .inl x4), (5, .inl x5)] [] w (some (.inl y), v)) : ∀ (x1 x2 x5 x6 : Int) (w : aw_W) (y : Int) (v : aw_W), m_greatestFor_56 N k15 x1 x2 x5 x6 w = some (y, v) → aw_AW l K MX12_greatestFor (d + 1) 56 [(0, .inr (.inr 49)), (1, .inl x1), (2, .inl x2), (5, .inl x5), (6, .inl x6)] [] w (some (.inl y), v) := by
  intro x1 x2 x5 x6 w y v h
  unfold m_greatestFor_56 at h
  refine aw_iload (pc := 56) (q := 3) dX12_greatestFor_56 rfl ?_
  refine aw_istore_n (pc := 58) (ls' := [(3, .inl x5), (0, .inr (.inr 49)), (1, .inl x1), (2, .inl x2), (5, .inl x5), (6, .inl x6)]) dX12_greatestFor_58 (by decide) rfl ?_
  refine aw_iload (pc := 59) (q := 5) dX12_greatestFor_59 rfl ?_
  refine aw_istore (pc := 61) (ls' := [(4, .inl x6), (3, .inl x5), (0, .inr (.inr 49)), (1, .inl x1), (2, .inl x2), (5, .inl x5), (6, .inl x6)]) dX12_greatestFor_61 (by decide) rfl ?_
  exact aw_sel [2, 3, 4, 1, 0, 5] rfl (w_m_greatestFor_63 N d hd  _ hk15 _ _ _ _ _ _ _ _ h)
def m_greatestFor_15 (N : Nat) : Nat → Int → Int → Int → Int → Int → aw_W → Option (Int × aw_W)
  | 0, _, _, _, _, _, _ => none
  | n + 1, x1, x2, x3, x4, x5, w =>
    if (w 56 4) < x5 then
      m_greatestFor_69 N x1 x2 x3 w
    else
      if 0 ≤ x1 ∧ x1 < 6 then
        aw_b2 (m_gainOf N x1 (aw_up w 64 x1.toNat x5)) fun r1 w1 =>
          if x5 ≤ 0 then
            m_greatestFor_56 N (m_greatestFor_15 N n) x1 x2 x5 r1 w1
          else
            if x4 < r1 then
              m_greatestFor_56 N (m_greatestFor_15 N n) x1 x2 x5 r1 w1
            else
              m_greatestFor_63 N (m_greatestFor_15 N n) x1 x2 x3 x4 x5 w1
      else none
theorem w_m_greatestFor_15 {l : Launch} {K : aw_K} (N d : Nat) (hd : 3 ≤ d) : ∀ (n : Nat) (x1 x2 x3 x4 x5 : Int) (w : aw_W) (y : Int) (v : aw_W), m_greatestFor_15 N n x1 x2 x3 x4 x5 w = some (y, v) → aw_AW l K MX12_greatestFor (d + 1) 15 [(0, .inr (.inr 49)), (1, .inl x1), (2, .inl x2), (3, .inl x3), (4, .inl x4), (5, .inl x5)] [] w (some (.inl y), v) := by
  intro n
  induction n with
  | zero => intro x1 x2 x3 x4 x5 w y v h; rw [m_greatestFor_15] at h; cases h
  | succ n ih =>
    intro x1 x2 x3 x4 x5 w y v h
    rw [m_greatestFor_15] at h
    refine aw_iload (pc := 15) (q := 5) dX12_greatestFor_15 rfl ?_
    refine aw_aload_n (pc := 17) (q := 0) dX12_greatestFor_17 rfl ?_
    refine aw_getf (pc := 18) (v := .inr (.inr 56)) dX12_greatestFor_18 fl_RX12_43 (by decide) rfl rfl rfl ?_
    refine aw_iconst (pc := 21) dX12_greatestFor_21 ⟨by decide, by decide⟩ ?_
    refine aw_ialdv (pc := 22) (v := w 56 4) dX12_greatestFor_22 rfl (by decide) (by decide) rfl ?_
    refine aw_icmp_gt (pc := 23) (tgt := 69) dX12_greatestFor_23 (by decide) (fun hc => ?_) (fun hc => ?_)
    · rw [if_pos hc] at h
      exact aw_sel [0, 1, 2, 3] rfl (w_m_greatestFor_69 N d hd  _ _ _ _ _ _ h)
    · rw [if_neg hc] at h
      refine aw_aload_n (pc := 26) (q := 0) dX12_greatestFor_26 rfl ?_
      refine aw_getf (pc := 27) (v := .inr (.inr 64)) dX12_greatestFor_27 fl_RX12_72 (by decide) rfl rfl rfl ?_
      refine aw_iload_n (pc := 30) (q := 1) dX12_greatestFor_30 rfl ?_
      refine aw_iload (pc := 31) (q := 5) dX12_greatestFor_31 rfl ?_
      obtain ⟨hb, h⟩ := aw_cks h
      refine aw_iast (pc := 33) dX12_greatestFor_33 rfl hb.1 hb.2 ?_
      refine aw_aload_n (pc := 34) (q := 0) dX12_greatestFor_34 rfl ?_
      refine aw_iload_n (pc := 35) (q := 1) dX12_greatestFor_35 rfl ?_
      obtain ⟨r1, w1, h1, h⟩ := aw_b2s h
      refine aw_callV (pc := 36) (as := [.inl x1]) (st := []) (st' := [.inl r1]) dX12_greatestFor_36 cv_RX12_348 (by decide) rfl rfl rfl rfl (Nat.le_of_ble_eq_true rfl) (w_m_gainOf N d (by omega) _ _ _ _ h1) rfl ?_
      refine aw_istore (pc := 39) (ls' := [(6, .inl r1), (0, .inr (.inr 49)), (1, .inl x1), (2, .inl x2), (3, .inl x3), (4, .inl x4), (5, .inl x5)]) dX12_greatestFor_39 (by decide) rfl ?_
      refine aw_iload (pc := 41) (q := 6) dX12_greatestFor_41 rfl ?_
      refine aw_if_le (pc := 43) (tgt := 56) dX12_greatestFor_43 (by decide) (fun hc => ?_) (fun hc => ?_)
      · rw [if_pos hc] at h
        exact aw_sel [1, 2, 3, 6, 0] rfl (w_m_greatestFor_56 N d hd  _ ih _ _ _ _ _ _ _ h)
      · rw [if_neg hc] at h
        refine aw_iload (pc := 46) (q := 0) dX12_greatestFor_46 rfl ?_
        refine aw_iload (pc := 48) (q := 5) dX12_greatestFor_48 rfl ?_
        refine aw_icmp_gt (pc := 50) (tgt := 56) dX12_greatestFor_50 (by decide) (fun hc => ?_) (fun hc => ?_)
        · rw [if_pos hc] at h
          exact aw_sel [1, 2, 3, 6, 0] rfl (w_m_greatestFor_56 N d hd  _ ih _ _ _ _ _ _ _ h)
        · rw [if_neg hc] at h
          refine aw_goto (pc := 53) (tgt := 63) dX12_greatestFor_53 (by decide) ?_
          exact aw_sel [1, 2, 3, 4, 5, 6] rfl (w_m_greatestFor_63 N d hd  _ ih _ _ _ _ _ _ _ _ h)
def m_greatestFor (N : Nat) (x1 : Int) (w : aw_W) : Option (Int × aw_W) :=
  if 0 ≤ x1 ∧ x1 < 6 then
    m_greatestFor_15 N N x1 (w 64 x1.toNat) 0 0 0 w
  else none
theorem w_m_greatestFor_d {l : Launch} {K : aw_K} (N d : Nat) (hd : 3 ≤ d) : ∀ (x1 : Int) (w : aw_W) (y : Int) (v : aw_W), m_greatestFor N x1 w = some (y, v) → aw_Met l K MX12_greatestFor (d + 1) [.inr (.inr 49), .inl x1] w (some (.inl y), v) := by
  intro x1 w y v h
  unfold m_greatestFor at h
  refine aw_enter rfl (Nat.le_of_ble_eq_true rfl) ?_
  show aw_AW l K MX12_greatestFor (d + 1) 0 [(0, .inr (.inr 49)), (1, .inl x1)] [] w (some (.inl y), v)
  refine aw_aload_n (pc := 0) (q := 0) dX12_greatestFor_0 rfl ?_
  refine aw_getf (pc := 1) (v := .inr (.inr 64)) dX12_greatestFor_1 fl_RX12_72 (by decide) rfl rfl rfl ?_
  refine aw_iload_n (pc := 4) (q := 1) dX12_greatestFor_4 rfl ?_
  obtain ⟨hb, h⟩ := aw_cks h
  refine aw_ialdv (pc := 5) (v := w 64 x1.toNat) dX12_greatestFor_5 rfl hb.1 hb.2 rfl ?_
  refine aw_istore_n (pc := 6) (ls' := [(2, .inl (w 64 x1.toNat)), (0, .inr (.inr 49)), (1, .inl x1)]) dX12_greatestFor_6 (by decide) rfl ?_
  refine aw_iconst (pc := 7) dX12_greatestFor_7 ⟨by decide, by decide⟩ ?_
  refine aw_istore_n (pc := 8) (ls' := [(3, .inl 0), (2, .inl (w 64 x1.toNat)), (0, .inr (.inr 49)), (1, .inl x1)]) dX12_greatestFor_8 (by decide) rfl ?_
  refine aw_iconst (pc := 9) dX12_greatestFor_9 ⟨by decide, by decide⟩ ?_
  refine aw_istore (pc := 10) (ls' := [(4, .inl 0), (3, .inl 0), (2, .inl (w 64 x1.toNat)), (0, .inr (.inr 49)), (1, .inl x1)]) dX12_greatestFor_10 (by decide) rfl ?_
  refine aw_iconst (pc := 12) dX12_greatestFor_12 ⟨by decide, by decide⟩ ?_
  refine aw_istore (pc := 13) (ls' := [(5, .inl 0), (4, .inl 0), (3, .inl 0), (2, .inl (w 64 x1.toNat)), (0, .inr (.inr 49)), (1, .inl x1)]) dX12_greatestFor_13 (by decide) rfl ?_
  exact aw_sel [4, 5, 3, 2, 1, 0] rfl (w_m_greatestFor_15 N d hd  N _ _ _ _ _ _ _ _ h)
theorem w_m_greatestFor {l : Launch} {K : aw_K} (N d : Nat) (hd : 4 ≤ d) : ∀ (x1 : Int) (w : aw_W) (y : Int) (v : aw_W), m_greatestFor N x1 w = some (y, v) → aw_Met l K MX12_greatestFor (d) [.inr (.inr 49), .inl x1] w (some (.inl y), v) := by
  obtain ⟨e, rfl⟩ : ∃ e, d = e + 1 := ⟨d - 1, by omega⟩
  exact w_m_greatestFor_d N e (by omega)
theorem dX12_told_0 : decode cX12_told 0 = .ok (.iload_n 2, 1) := by decide +kernel
theorem dX12_told_1 : decode cX12_told 1 = .ok (.iconst 3, 1) := by decide +kernel
theorem dX12_told_2 : decode cX12_told 2 = .ok (.if_icmp .ne 25, 3) := by decide +kernel
theorem dX12_told_5 : decode cX12_told 5 = .ok (.aload_n 0, 1) := by decide +kernel
theorem dX12_told_6 : decode cX12_told 6 = .ok (.getfield 37, 3) := by decide +kernel
theorem dX12_told_9 : decode cX12_told 9 = .ok (.iconst 4, 1) := by decide +kernel
theorem dX12_told_10 : decode cX12_told 10 = .ok (.iload_n 1, 1) := by decide +kernel
theorem dX12_told_11 : decode cX12_told 11 = .ok (.imul, 1) := by decide +kernel
theorem dX12_told_12 : decode cX12_told 12 = .ok (.iconst 3, 1) := by decide +kernel
theorem dX12_told_13 : decode cX12_told 13 = .ok (.iadd, 1) := by decide +kernel
theorem dX12_told_14 : decode cX12_told 14 = .ok (.iaload, 1) := by decide +kernel
theorem dX12_told_15 : decode cX12_told 15 = .ok (.aload_n 0, 1) := by decide +kernel
theorem dX12_told_16 : decode cX12_told 16 = .ok (.getfield 43, 3) := by decide +kernel
theorem dX12_told_19 : decode cX12_told 19 = .ok (.iconst 4, 1) := by decide +kernel
theorem dX12_told_20 : decode cX12_told 20 = .ok (.iaload, 1) := by decide +kernel
theorem dX12_told_21 : decode cX12_told 21 = .ok (.invokestatic 279, 3) := by decide +kernel
theorem dX12_told_24 : decode cX12_told 24 = .ok (.goto 13, 3) := by decide +kernel
theorem dX12_told_27 : decode cX12_told 27 = .ok (.aload_n 0, 1) := by decide +kernel
theorem dX12_told_28 : decode cX12_told 28 = .ok (.getfield 37, 3) := by decide +kernel
theorem dX12_told_31 : decode cX12_told 31 = .ok (.iconst 4, 1) := by decide +kernel
theorem dX12_told_32 : decode cX12_told 32 = .ok (.iload_n 1, 1) := by decide +kernel
theorem dX12_told_33 : decode cX12_told 33 = .ok (.imul, 1) := by decide +kernel
theorem dX12_told_34 : decode cX12_told 34 = .ok (.iload_n 2, 1) := by decide +kernel
theorem dX12_told_35 : decode cX12_told 35 = .ok (.iadd, 1) := by decide +kernel
theorem dX12_told_36 : decode cX12_told 36 = .ok (.iaload, 1) := by decide +kernel
theorem dX12_told_37 : decode cX12_told 37 = .ok (.ireturn, 1) := by decide +kernel
def m_told_37 (N : Nat) (s0 : Int) (w : aw_W) : Option (Int × aw_W) :=
  some (s0, w)
theorem w_m_told_37 {l : Launch} {K : aw_K} (N d : Nat) : ∀ (s0 : Int) (w : aw_W) (y : Int) (v : aw_W), m_told_37 N s0 w = some (y, v) → aw_AW l K MX12_told (d) 37 [] [.inl s0] w (some (.inl y), v) := by
  intro s0 w y v h
  unfold m_told_37 at h
  cases h
  exact aw_iret (pc := 37) rfl dX12_told_37
def m_told (N : Nat) (x1 x2 : Int) (w : aw_W) : Option (Int × aw_W) :=
  if x2 = 3 then
    if 0 ≤ (aw_w ((aw_w (4 * x1)) + 3)) ∧ (aw_w ((aw_w (4 * x1)) + 3)) < 24 then
      m_told_37 N (aw_mn (w 54 ((aw_w ((aw_w (4 * x1)) + 3)).toNat)) (w 56 4)) w
    else none
  else
    if 0 ≤ (aw_w ((aw_w (4 * x1)) + x2)) ∧ (aw_w ((aw_w (4 * x1)) + x2)) < 24 then
      m_told_37 N (w 54 ((aw_w ((aw_w (4 * x1)) + x2)).toNat)) w
    else none
theorem w_m_told {l : Launch} {K : aw_K} (N d : Nat) (hd : 0 ≤ d) : ∀ (x1 x2 : Int) (w : aw_W) (y : Int) (v : aw_W), m_told N x1 x2 w = some (y, v) → aw_Met l K MX12_told (d) [.inr (.inr 49), .inl x1, .inl x2] w (some (.inl y), v) := by
  intro x1 x2 w y v h
  unfold m_told at h
  refine aw_enter rfl (Nat.le_of_ble_eq_true rfl) ?_
  show aw_AW l K MX12_told (d) 0 [(0, .inr (.inr 49)), (1, .inl x1), (2, .inl x2)] [] w (some (.inl y), v)
  refine aw_iload_n (pc := 0) (q := 2) dX12_told_0 rfl ?_
  refine aw_iconst (pc := 1) dX12_told_1 ⟨by decide, by decide⟩ ?_
  refine aw_icmp_ne (pc := 2) (tgt := 27) dX12_told_2 (by decide) (fun hc => ?_) (fun hc => ?_)
  · rw [if_neg hc] at h
    refine aw_aload_n (pc := 27) (q := 0) dX12_told_27 rfl ?_
    refine aw_getf (pc := 28) (v := .inr (.inr 54)) dX12_told_28 fl_RX12_37 (by decide) rfl rfl rfl ?_
    refine aw_iconst (pc := 31) dX12_told_31 ⟨by decide, by decide⟩ ?_
    refine aw_iload_n (pc := 32) (q := 1) dX12_told_32 rfl ?_
    refine aw_imul (pc := 33) dX12_told_33 ?_
    refine aw_iload_n (pc := 34) (q := 2) dX12_told_34 rfl ?_
    refine aw_iadd (pc := 35) dX12_told_35 ?_
    obtain ⟨hb, h⟩ := aw_cks h
    refine aw_ialdv (pc := 36) (v := w 54 ((aw_w ((aw_w (4 * x1)) + x2)).toNat)) dX12_told_36 rfl hb.1 hb.2 rfl ?_
    exact aw_sel [] rfl (w_m_told_37 N d  _ _ _ _ h)
  · rw [if_pos hc] at h
    refine aw_aload_n (pc := 5) (q := 0) dX12_told_5 rfl ?_
    refine aw_getf (pc := 6) (v := .inr (.inr 54)) dX12_told_6 fl_RX12_37 (by decide) rfl rfl rfl ?_
    refine aw_iconst (pc := 9) dX12_told_9 ⟨by decide, by decide⟩ ?_
    refine aw_iload_n (pc := 10) (q := 1) dX12_told_10 rfl ?_
    refine aw_imul (pc := 11) dX12_told_11 ?_
    refine aw_iconst (pc := 12) dX12_told_12 ⟨by decide, by decide⟩ ?_
    refine aw_iadd (pc := 13) dX12_told_13 ?_
    obtain ⟨hb, h⟩ := aw_cks h
    refine aw_ialdv (pc := 14) (v := w 54 ((aw_w ((aw_w (4 * x1)) + 3)).toNat)) dX12_told_14 rfl hb.1 hb.2 rfl ?_
    refine aw_aload_n (pc := 15) (q := 0) dX12_told_15 rfl ?_
    refine aw_getf (pc := 16) (v := .inr (.inr 56)) dX12_told_16 fl_RX12_43 (by decide) rfl rfl rfl ?_
    refine aw_iconst (pc := 19) dX12_told_19 ⟨by decide, by decide⟩ ?_
    refine aw_ialdv (pc := 20) (v := w 56 4) dX12_told_20 rfl (by decide) (by decide) rfl ?_
    refine aw_mmin (pc := 21) dX12_told_21 cm_RX12_279 (Nat.le_of_ble_eq_true rfl) ?_
    refine aw_goto (pc := 24) (tgt := 37) dX12_told_24 (by decide) ?_
    exact aw_sel [] rfl (w_m_told_37 N d  _ _ _ _ h)
theorem dX12_round_0 : decode cX12_round 0 = .ok (.iconst 0, 1) := by decide +kernel
theorem dX12_round_1 : decode cX12_round 1 = .ok (.istore_n 1, 1) := by decide +kernel
theorem dX12_round_2 : decode cX12_round 2 = .ok (.iload_n 1, 1) := by decide +kernel
theorem dX12_round_3 : decode cX12_round 3 = .ok (.aload_n 0, 1) := by decide +kernel
theorem dX12_round_4 : decode cX12_round 4 = .ok (.getfield 270, 3) := by decide +kernel
theorem dX12_round_7 : decode cX12_round 7 = .ok (.if_icmp .ge 157, 3) := by decide +kernel
theorem dX12_round_10 : decode cX12_round 10 = .ok (.aload_n 0, 1) := by decide +kernel
theorem dX12_round_11 : decode cX12_round 11 = .ok (.getfield 37, 3) := by decide +kernel
theorem dX12_round_14 : decode cX12_round 14 = .ok (.iconst 4, 1) := by decide +kernel
theorem dX12_round_15 : decode cX12_round 15 = .ok (.iload_n 1, 1) := by decide +kernel
theorem dX12_round_16 : decode cX12_round 16 = .ok (.imul, 1) := by decide +kernel
theorem dX12_round_17 : decode cX12_round 17 = .ok (.iconst 2, 1) := by decide +kernel
theorem dX12_round_18 : decode cX12_round 18 = .ok (.iadd, 1) := by decide +kernel
theorem dX12_round_19 : decode cX12_round 19 = .ok (.iaload, 1) := by decide +kernel
theorem dX12_round_20 : decode cX12_round 20 = .ok (.tableswitch 106 0 3 #[32, 47, 61, 91], 32) := by decide +kernel
theorem dX12_round_52 : decode cX12_round 52 = .ok (.aload_n 0, 1) := by decide +kernel
theorem dX12_round_53 : decode cX12_round 53 = .ok (.getfield 84, 3) := by decide +kernel
theorem dX12_round_56 : decode cX12_round 56 = .ok (.iload_n 1, 1) := by decide +kernel
theorem dX12_round_57 : decode cX12_round 57 = .ok (.aload_n 0, 1) := by decide +kernel
theorem dX12_round_58 : decode cX12_round 58 = .ok (.iload_n 1, 1) := by decide +kernel
theorem dX12_round_59 : decode cX12_round 59 = .ok (.iconst 3, 1) := by decide +kernel
theorem dX12_round_60 : decode cX12_round 60 = .ok (.invokevirtual 399, 3) := by decide +kernel
theorem dX12_round_63 : decode cX12_round 63 = .ok (.iastore, 1) := by decide +kernel
theorem dX12_round_64 : decode cX12_round 64 = .ok (.goto 94, 3) := by decide +kernel
theorem dX12_round_67 : decode cX12_round 67 = .ok (.aload_n 0, 1) := by decide +kernel
theorem dX12_round_68 : decode cX12_round 68 = .ok (.getfield 84, 3) := by decide +kernel
theorem dX12_round_71 : decode cX12_round 71 = .ok (.iload_n 1, 1) := by decide +kernel
theorem dX12_round_72 : decode cX12_round 72 = .ok (.aload_n 0, 1) := by decide +kernel
theorem dX12_round_73 : decode cX12_round 73 = .ok (.iload_n 1, 1) := by decide +kernel
theorem dX12_round_74 : decode cX12_round 74 = .ok (.invokevirtual 402, 3) := by decide +kernel
theorem dX12_round_77 : decode cX12_round 77 = .ok (.iastore, 1) := by decide +kernel
theorem dX12_round_78 : decode cX12_round 78 = .ok (.goto 80, 3) := by decide +kernel
theorem dX12_round_81 : decode cX12_round 81 = .ok (.aload_n 0, 1) := by decide +kernel
theorem dX12_round_82 : decode cX12_round 82 = .ok (.getfield 84, 3) := by decide +kernel
theorem dX12_round_85 : decode cX12_round 85 = .ok (.iload_n 1, 1) := by decide +kernel
theorem dX12_round_86 : decode cX12_round 86 = .ok (.aload_n 0, 1) := by decide +kernel
theorem dX12_round_87 : decode cX12_round 87 = .ok (.getfield 72, 3) := by decide +kernel
theorem dX12_round_90 : decode cX12_round 90 = .ok (.iload_n 1, 1) := by decide +kernel
theorem dX12_round_91 : decode cX12_round 91 = .ok (.ifCond .ne 12, 3) := by decide +kernel
theorem dX12_round_94 : decode cX12_round 94 = .ok (.aload_n 0, 1) := by decide +kernel
theorem dX12_round_95 : decode cX12_round 95 = .ok (.getfield 270, 3) := by decide +kernel
theorem dX12_round_98 : decode cX12_round 98 = .ok (.iconst 1, 1) := by decide +kernel
theorem dX12_round_99 : decode cX12_round 99 = .ok (.isub, 1) := by decide +kernel
theorem dX12_round_100 : decode cX12_round 100 = .ok (.goto 6, 3) := by decide +kernel
theorem dX12_round_103 : decode cX12_round 103 = .ok (.iload_n 1, 1) := by decide +kernel
theorem dX12_round_104 : decode cX12_round 104 = .ok (.iconst 1, 1) := by decide +kernel
theorem dX12_round_105 : decode cX12_round 105 = .ok (.isub, 1) := by decide +kernel
theorem dX12_round_106 : decode cX12_round 106 = .ok (.iaload, 1) := by decide +kernel
theorem dX12_round_107 : decode cX12_round 107 = .ok (.iastore, 1) := by decide +kernel
theorem dX12_round_108 : decode cX12_round 108 = .ok (.goto 50, 3) := by decide +kernel
theorem dX12_round_111 : decode cX12_round 111 = .ok (.aload_n 0, 1) := by decide +kernel
theorem dX12_round_112 : decode cX12_round 112 = .ok (.getfield 84, 3) := by decide +kernel
theorem dX12_round_115 : decode cX12_round 115 = .ok (.iload_n 1, 1) := by decide +kernel
theorem dX12_round_116 : decode cX12_round 116 = .ok (.aload_n 0, 1) := by decide +kernel
theorem dX12_round_117 : decode cX12_round 117 = .ok (.getfield 43, 3) := by decide +kernel
theorem dX12_round_120 : decode cX12_round 120 = .ok (.iconst 4, 1) := by decide +kernel
theorem dX12_round_121 : decode cX12_round 121 = .ok (.iaload, 1) := by decide +kernel
theorem dX12_round_122 : decode cX12_round 122 = .ok (.iastore, 1) := by decide +kernel
theorem dX12_round_123 : decode cX12_round 123 = .ok (.goto 35, 3) := by decide +kernel
theorem dX12_round_126 : decode cX12_round 126 = .ok (.aload_n 0, 1) := by decide +kernel
theorem dX12_round_127 : decode cX12_round 127 = .ok (.getfield 84, 3) := by decide +kernel
theorem dX12_round_130 : decode cX12_round 130 = .ok (.iload_n 1, 1) := by decide +kernel
theorem dX12_round_131 : decode cX12_round 131 = .ok (.aload_n 0, 1) := by decide +kernel
theorem dX12_round_132 : decode cX12_round 132 = .ok (.getfield 72, 3) := by decide +kernel
theorem dX12_round_135 : decode cX12_round 135 = .ok (.iload_n 1, 1) := by decide +kernel
theorem dX12_round_136 : decode cX12_round 136 = .ok (.iaload, 1) := by decide +kernel
theorem dX12_round_137 : decode cX12_round 137 = .ok (.ifCond .ne 12, 3) := by decide +kernel
theorem dX12_round_140 : decode cX12_round 140 = .ok (.aload_n 0, 1) := by decide +kernel
theorem dX12_round_141 : decode cX12_round 141 = .ok (.getfield 43, 3) := by decide +kernel
theorem dX12_round_144 : decode cX12_round 144 = .ok (.iconst 4, 1) := by decide +kernel
theorem dX12_round_145 : decode cX12_round 145 = .ok (.iaload, 1) := by decide +kernel
theorem dX12_round_146 : decode cX12_round 146 = .ok (.goto 11, 3) := by decide +kernel
theorem dX12_round_149 : decode cX12_round 149 = .ok (.aload_n 0, 1) := by decide +kernel
theorem dX12_round_150 : decode cX12_round 150 = .ok (.getfield 72, 3) := by decide +kernel
theorem dX12_round_153 : decode cX12_round 153 = .ok (.iload_n 1, 1) := by decide +kernel
theorem dX12_round_154 : decode cX12_round 154 = .ok (.iaload, 1) := by decide +kernel
theorem dX12_round_155 : decode cX12_round 155 = .ok (.iconst 1, 1) := by decide +kernel
theorem dX12_round_156 : decode cX12_round 156 = .ok (.isub, 1) := by decide +kernel
theorem dX12_round_157 : decode cX12_round 157 = .ok (.iastore, 1) := by decide +kernel
theorem dX12_round_158 : decode cX12_round 158 = .ok (.iinc 1 1, 3) := by decide +kernel
theorem dX12_round_161 : decode cX12_round 161 = .ok (.goto (-159), 3) := by decide +kernel
theorem dX12_round_164 : decode cX12_round 164 = .ok (.iconst 0, 1) := by decide +kernel
theorem dX12_round_165 : decode cX12_round 165 = .ok (.istore_n 1, 1) := by decide +kernel
theorem dX12_round_166 : decode cX12_round 166 = .ok (.iload_n 1, 1) := by decide +kernel
theorem dX12_round_167 : decode cX12_round 167 = .ok (.aload_n 0, 1) := by decide +kernel
theorem dX12_round_168 : decode cX12_round 168 = .ok (.getfield 270, 3) := by decide +kernel
theorem dX12_round_171 : decode cX12_round 171 = .ok (.if_icmp .ge 21, 3) := by decide +kernel
theorem dX12_round_174 : decode cX12_round 174 = .ok (.aload_n 0, 1) := by decide +kernel
theorem dX12_round_175 : decode cX12_round 175 = .ok (.getfield 72, 3) := by decide +kernel
theorem dX12_round_178 : decode cX12_round 178 = .ok (.iload_n 1, 1) := by decide +kernel
theorem dX12_round_179 : decode cX12_round 179 = .ok (.aload_n 0, 1) := by decide +kernel
theorem dX12_round_180 : decode cX12_round 180 = .ok (.getfield 84, 3) := by decide +kernel
theorem dX12_round_183 : decode cX12_round 183 = .ok (.iload_n 1, 1) := by decide +kernel
theorem dX12_round_184 : decode cX12_round 184 = .ok (.iaload, 1) := by decide +kernel
theorem dX12_round_185 : decode cX12_round 185 = .ok (.iastore, 1) := by decide +kernel
theorem dX12_round_186 : decode cX12_round 186 = .ok (.iinc 1 1, 3) := by decide +kernel
theorem dX12_round_189 : decode cX12_round 189 = .ok (.goto (-23), 3) := by decide +kernel
theorem dX12_round_192 : decode cX12_round 192 = .ok (.return_, 1) := by decide +kernel
def m_round_192 (N : Nat) (w : aw_W) : Option (aw_W) :=
  some w
theorem w_m_round_192 {l : Launch} {K : aw_K} (N d : Nat) (hd : 4 ≤ d) : ∀ (w v : aw_W), m_round_192 N w = some v → aw_AW l K MX12_round (d + 1) 192 [] [] w (none, v) := by
  intro w v h
  unfold m_round_192 at h
  cases h
  exact aw_vret (pc := 192) rfl dX12_round_192
def m_round_166 (N : Nat) : Nat → Int → aw_W → Option (aw_W)
  | 0, _, _ => none
  | n + 1, x1, w =>
    if (w 49 22) ≤ x1 then
      m_round_192 N w
    else
      if 0 ≤ x1 ∧ x1 < 6 then
        if 0 ≤ x1 ∧ x1 < 6 then
          m_round_166 N n (aw_w (x1 + 1)) (aw_up w 64 x1.toNat (w 68 x1.toNat))
        else none
      else none
theorem w_m_round_166 {l : Launch} {K : aw_K} (N d : Nat) (hd : 4 ≤ d) : ∀ (n : Nat) (x1 : Int) (w v : aw_W), m_round_166 N n x1 w = some v → aw_AW l K MX12_round (d + 1) 166 [(0, .inr (.inr 49)), (1, .inl x1)] [] w (none, v) := by
  intro n
  induction n with
  | zero => intro x1 w v h; rw [m_round_166] at h; cases h
  | succ n ih =>
    intro x1 w v h
    rw [m_round_166] at h
    refine aw_iload_n (pc := 166) (q := 1) dX12_round_166 rfl ?_
    refine aw_aload_n (pc := 167) (q := 0) dX12_round_167 rfl ?_
    refine aw_getf (pc := 168) (v := .inl (w 49 22)) dX12_round_168 fl_RX12_270 (by decide) rfl rfl rfl ?_
    refine aw_icmp_ge (pc := 171) (tgt := 192) dX12_round_171 (by decide) (fun hc => ?_) (fun hc => ?_)
    · rw [if_pos hc] at h
      exact aw_sel [] rfl (w_m_round_192 N d hd  _ _ h)
    · rw [if_neg hc] at h
      refine aw_aload_n (pc := 174) (q := 0) dX12_round_174 rfl ?_
      refine aw_getf (pc := 175) (v := .inr (.inr 64)) dX12_round_175 fl_RX12_72 (by decide) rfl rfl rfl ?_
      refine aw_iload_n (pc := 178) (q := 1) dX12_round_178 rfl ?_
      refine aw_aload_n (pc := 179) (q := 0) dX12_round_179 rfl ?_
      refine aw_getf (pc := 180) (v := .inr (.inr 68)) dX12_round_180 fl_RX12_84 (by decide) rfl rfl rfl ?_
      refine aw_iload_n (pc := 183) (q := 1) dX12_round_183 rfl ?_
      obtain ⟨hb, h⟩ := aw_cks h
      refine aw_ialdv (pc := 184) (v := w 68 x1.toNat) dX12_round_184 rfl hb.1 hb.2 rfl ?_
      obtain ⟨hb, h⟩ := aw_cks h
      refine aw_iast (pc := 185) dX12_round_185 rfl hb.1 hb.2 ?_
      refine aw_iinc (pc := 186) (q := 1) (ls' := [(1, .inl (aw_w (x1 + 1))), (0, .inr (.inr 49))]) dX12_round_186 rfl (by decide) rfl ?_
      refine aw_goto (pc := 189) (tgt := 166) dX12_round_189 (by decide) ?_
      exact aw_sel [1, 0] rfl (ih _ _ _ h)
def m_round_164 (N : Nat) (w : aw_W) : Option (aw_W) :=
  m_round_166 N N 0 w
theorem w_m_round_164 {l : Launch} {K : aw_K} (N d : Nat) (hd : 4 ≤ d) : ∀ (w v : aw_W), m_round_164 N w = some v → aw_AW l K MX12_round (d + 1) 164 [(0, .inr (.inr 49))] [] w (none, v) := by
  intro w v h
  unfold m_round_164 at h
  refine aw_iconst (pc := 164) dX12_round_164 ⟨by decide, by decide⟩ ?_
  refine aw_istore_n (pc := 165) (ls' := [(1, .inl 0), (0, .inr (.inr 49))]) dX12_round_165 (by decide) rfl ?_
  exact aw_sel [1, 0] rfl (w_m_round_166 N d hd  N _ _ _ h)
def m_round_158 (N : Nat) (k2 : Int → aw_W → Option (aw_W)) (x1 : Int) (w : aw_W) : Option (aw_W) :=
  k2 (aw_w (x1 + 1)) w
theorem w_m_round_158 {l : Launch} {K : aw_K} (N d : Nat) (hd : 4 ≤ d) (k2 : Int → aw_W → Option (aw_W)) (hk2 : ∀ (x1 : Int) (w v : aw_W), k2 x1 w = some v → aw_AW l K MX12_round (d + 1) 2 [(0, .inr (.inr 49)), (1, .inl x1)] [] w (none, v)) : ∀ (x1 : Int) (w v : aw_W), m_round_158 N k2 x1 w = some v → aw_AW l K MX12_round (d + 1) 158 [(0, .inr (.inr 49)), (1, .inl x1)] [] w (none, v) := by
  intro x1 w v h
  unfold m_round_158 at h
  refine aw_iinc (pc := 158) (q := 1) (ls' := [(1, .inl (aw_w (x1 + 1))), (0, .inr (.inr 49))]) dX12_round_158 rfl (by decide) rfl ?_
  refine aw_goto (pc := 161) (tgt := 2) dX12_round_161 (by decide) ?_
  exact aw_sel [1, 0] rfl (hk2 _ _ _ h)
def m_round_157 (N : Nat) (k2 : Int → aw_W → Option (aw_W)) (x1 s0 s1 : Int) (w : aw_W) : Option (aw_W) :=
  if 0 ≤ s1 ∧ s1 < 6 then
    m_round_158 N k2 x1 (aw_up w 68 s1.toNat s0)
  else none
theorem w_m_round_157 {l : Launch} {K : aw_K} (N d : Nat) (hd : 4 ≤ d) (k2 : Int → aw_W → Option (aw_W)) (hk2 : ∀ (x1 : Int) (w v : aw_W), k2 x1 w = some v → aw_AW l K MX12_round (d + 1) 2 [(0, .inr (.inr 49)), (1, .inl x1)] [] w (none, v)) : ∀ (x1 s0 s1 : Int) (w v : aw_W), m_round_157 N k2 x1 s0 s1 w = some v → aw_AW l K MX12_round (d + 1) 157 [(0, .inr (.inr 49)), (1, .inl x1)] [.inl s0, .inl s1, .inr (.inr 68)] w (none, v) := by
  intro x1 s0 s1 w v h
  unfold m_round_157 at h
  obtain ⟨hb, h⟩ := aw_cks h
  refine aw_iast (pc := 157) dX12_round_157 rfl hb.1 hb.2 ?_
  exact aw_sel [0, 1] rfl (w_m_round_158 N d hd  _ hk2 _ _ _ h)
def m_round_106 (N : Nat) (k2 : Int → aw_W → Option (aw_W)) (x1 s0 s2 : Int) (w : aw_W) : Option (aw_W) :=
  if 0 ≤ s0 ∧ s0 < 6 then
    if 0 ≤ s2 ∧ s2 < 6 then
      m_round_158 N k2 x1 (aw_up w 68 s2.toNat (w 64 s0.toNat))
    else none
  else none
theorem w_m_round_106 {l : Launch} {K : aw_K} (N d : Nat) (hd : 4 ≤ d) (k2 : Int → aw_W → Option (aw_W)) (hk2 : ∀ (x1 : Int) (w v : aw_W), k2 x1 w = some v → aw_AW l K MX12_round (d + 1) 2 [(0, .inr (.inr 49)), (1, .inl x1)] [] w (none, v)) : ∀ (x1 s0 s2 : Int) (w v : aw_W), m_round_106 N k2 x1 s0 s2 w = some v → aw_AW l K MX12_round (d + 1) 106 [(0, .inr (.inr 49)), (1, .inl x1)] [.inl s0, .inr (.inr 64), .inl s2, .inr (.inr 68)] w (none, v) := by
  intro x1 s0 s2 w v h
  unfold m_round_106 at h
  obtain ⟨hb, h⟩ := aw_cks h
  refine aw_ialdv (pc := 106) (v := w 64 s0.toNat) dX12_round_106 rfl hb.1 hb.2 rfl ?_
  obtain ⟨hb, h⟩ := aw_cks h
  refine aw_iast (pc := 107) dX12_round_107 rfl hb.1 hb.2 ?_
  refine aw_goto (pc := 108) (tgt := 158) dX12_round_108 (by decide) ?_
  exact aw_sel [0, 1] rfl (w_m_round_158 N d hd  _ hk2 _ _ _ h)
def m_round_2 (N : Nat) : Nat → Int → aw_W → Option (aw_W)
  | 0, _, _ => none
  | n + 1, x1, w =>
    if (w 49 22) ≤ x1 then
      m_round_164 N w
    else
      if 0 ≤ (aw_w ((aw_w (4 * x1)) + 2)) ∧ (aw_w ((aw_w (4 * x1)) + 2)) < 24 then
        if (w 54 ((aw_w ((aw_w (4 * x1)) + 2)).toNat)) = 0 then
          aw_b2 (m_told N x1 3 w) fun r2 w2 =>
            if 0 ≤ x1 ∧ x1 < 6 then
              m_round_158 N (m_round_2 N n) x1 (aw_up w2 68 x1.toNat r2)
            else none
        else
          if (w 54 ((aw_w ((aw_w (4 * x1)) + 2)).toNat)) = 1 then
            aw_b2 (m_greatestFor N x1 w) fun r1 w1 =>
              if 0 ≤ x1 ∧ x1 < 6 then
                m_round_158 N (m_round_2 N n) x1 (aw_up w1 68 x1.toNat r1)
              else none
          else
            if (w 54 ((aw_w ((aw_w (4 * x1)) + 2)).toNat)) = 2 then
              if x1 = 0 then
                m_round_106 N (m_round_2 N n) x1 (aw_w ((w 49 22) - 1)) x1 w
              else
                m_round_106 N (m_round_2 N n) x1 (aw_w (x1 - 1)) x1 w
            else
              if (w 54 ((aw_w ((aw_w (4 * x1)) + 2)).toNat)) = 3 then
                if 0 ≤ x1 ∧ x1 < 6 then
                  m_round_158 N (m_round_2 N n) x1 (aw_up w 68 x1.toNat (w 56 4))
                else none
              else
                if 0 ≤ x1 ∧ x1 < 6 then
                  if (w 64 x1.toNat) = 0 then
                    m_round_157 N (m_round_2 N n) x1 (w 56 4) x1 w
                  else
                    if 0 ≤ x1 ∧ x1 < 6 then
                      m_round_157 N (m_round_2 N n) x1 (aw_w ((w 64 x1.toNat) - 1)) x1 w
                    else none
                else none
      else none
theorem w_m_round_2 {l : Launch} {K : aw_K} (N d : Nat) (hd : 4 ≤ d) : ∀ (n : Nat) (x1 : Int) (w v : aw_W), m_round_2 N n x1 w = some v → aw_AW l K MX12_round (d + 1) 2 [(0, .inr (.inr 49)), (1, .inl x1)] [] w (none, v) := by
  intro n
  induction n with
  | zero => intro x1 w v h; rw [m_round_2] at h; cases h
  | succ n ih =>
    intro x1 w v h
    rw [m_round_2] at h
    refine aw_iload_n (pc := 2) (q := 1) dX12_round_2 rfl ?_
    refine aw_aload_n (pc := 3) (q := 0) dX12_round_3 rfl ?_
    refine aw_getf (pc := 4) (v := .inl (w 49 22)) dX12_round_4 fl_RX12_270 (by decide) rfl rfl rfl ?_
    refine aw_icmp_ge (pc := 7) (tgt := 164) dX12_round_7 (by decide) (fun hc => ?_) (fun hc => ?_)
    · rw [if_pos hc] at h
      exact aw_sel [0] rfl (w_m_round_164 N d hd  _ _ h)
    · rw [if_neg hc] at h
      refine aw_aload_n (pc := 10) (q := 0) dX12_round_10 rfl ?_
      refine aw_getf (pc := 11) (v := .inr (.inr 54)) dX12_round_11 fl_RX12_37 (by decide) rfl rfl rfl ?_
      refine aw_iconst (pc := 14) dX12_round_14 ⟨by decide, by decide⟩ ?_
      refine aw_iload_n (pc := 15) (q := 1) dX12_round_15 rfl ?_
      refine aw_imul (pc := 16) dX12_round_16 ?_
      refine aw_iconst (pc := 17) dX12_round_17 ⟨by decide, by decide⟩ ?_
      refine aw_iadd (pc := 18) dX12_round_18 ?_
      obtain ⟨hb, h⟩ := aw_cks h
      refine aw_ialdv (pc := 19) (v := w 54 ((aw_w ((aw_w (4 * x1)) + 2)).toNat)) dX12_round_19 rfl hb.1 hb.2 rfl ?_
      by_cases hc0 : (w 54 ((aw_w ((aw_w (4 * x1)) + 2)).toNat)) = 0
      · rw [if_pos hc0] at h
        refine aw_tabIn (pc := 20) (tgt := 52) (off := 32) dX12_round_20 (by omega) (by omega) (by rw [hc0]; rfl) (by decide) ?_
        refine aw_aload_n (pc := 52) (q := 0) dX12_round_52 rfl ?_
        refine aw_getf (pc := 53) (v := .inr (.inr 68)) dX12_round_53 fl_RX12_84 (by decide) rfl rfl rfl ?_
        refine aw_iload_n (pc := 56) (q := 1) dX12_round_56 rfl ?_
        refine aw_aload_n (pc := 57) (q := 0) dX12_round_57 rfl ?_
        refine aw_iload_n (pc := 58) (q := 1) dX12_round_58 rfl ?_
        refine aw_iconst (pc := 59) dX12_round_59 ⟨by decide, by decide⟩ ?_
        obtain ⟨r2, w2, h2, h⟩ := aw_b2s h
        refine aw_callV (pc := 60) (as := [.inl x1, .inl 3]) (st := [.inl x1, .inr (.inr 68)]) (st' := [.inl r2, .inl x1, .inr (.inr 68)]) dX12_round_60 cv_RX12_399 (by decide) rfl rfl rfl rfl (Nat.le_of_ble_eq_true rfl) (w_m_told N d (by omega) _ _ _ _ _ h2) rfl ?_
        obtain ⟨hb, h⟩ := aw_cks h
        refine aw_iast (pc := 63) dX12_round_63 rfl hb.1 hb.2 ?_
        refine aw_goto (pc := 64) (tgt := 158) dX12_round_64 (by decide) ?_
        exact aw_sel [0, 1] rfl (w_m_round_158 N d hd  _ ih _ _ _ h)
      · rw [if_neg hc0] at h
        by_cases hc1 : (w 54 ((aw_w ((aw_w (4 * x1)) + 2)).toNat)) = 1
        · rw [if_pos hc1] at h
          refine aw_tabIn (pc := 20) (tgt := 67) (off := 47) dX12_round_20 (by omega) (by omega) (by rw [hc1]; rfl) (by decide) ?_
          refine aw_aload_n (pc := 67) (q := 0) dX12_round_67 rfl ?_
          refine aw_getf (pc := 68) (v := .inr (.inr 68)) dX12_round_68 fl_RX12_84 (by decide) rfl rfl rfl ?_
          refine aw_iload_n (pc := 71) (q := 1) dX12_round_71 rfl ?_
          refine aw_aload_n (pc := 72) (q := 0) dX12_round_72 rfl ?_
          refine aw_iload_n (pc := 73) (q := 1) dX12_round_73 rfl ?_
          obtain ⟨r1, w1, h1, h⟩ := aw_b2s h
          refine aw_callV (pc := 74) (as := [.inl x1]) (st := [.inl x1, .inr (.inr 68)]) (st' := [.inl r1, .inl x1, .inr (.inr 68)]) dX12_round_74 cv_RX12_402 (by decide) rfl rfl rfl rfl (Nat.le_of_ble_eq_true rfl) (w_m_greatestFor N d (by omega) _ _ _ _ h1) rfl ?_
          obtain ⟨hb, h⟩ := aw_cks h
          refine aw_iast (pc := 77) dX12_round_77 rfl hb.1 hb.2 ?_
          refine aw_goto (pc := 78) (tgt := 158) dX12_round_78 (by decide) ?_
          exact aw_sel [0, 1] rfl (w_m_round_158 N d hd  _ ih _ _ _ h)
        · rw [if_neg hc1] at h
          by_cases hc2 : (w 54 ((aw_w ((aw_w (4 * x1)) + 2)).toNat)) = 2
          · rw [if_pos hc2] at h
            refine aw_tabIn (pc := 20) (tgt := 81) (off := 61) dX12_round_20 (by omega) (by omega) (by rw [hc2]; rfl) (by decide) ?_
            refine aw_aload_n (pc := 81) (q := 0) dX12_round_81 rfl ?_
            refine aw_getf (pc := 82) (v := .inr (.inr 68)) dX12_round_82 fl_RX12_84 (by decide) rfl rfl rfl ?_
            refine aw_iload_n (pc := 85) (q := 1) dX12_round_85 rfl ?_
            refine aw_aload_n (pc := 86) (q := 0) dX12_round_86 rfl ?_
            refine aw_getf (pc := 87) (v := .inr (.inr 64)) dX12_round_87 fl_RX12_72 (by decide) rfl rfl rfl ?_
            refine aw_iload_n (pc := 90) (q := 1) dX12_round_90 rfl ?_
            refine aw_if_ne (pc := 91) (tgt := 103) dX12_round_91 (by decide) (fun hc => ?_) (fun hc => ?_)
            · rw [if_neg hc] at h
              refine aw_iload_n (pc := 103) (q := 1) dX12_round_103 rfl ?_
              refine aw_iconst (pc := 104) dX12_round_104 ⟨by decide, by decide⟩ ?_
              refine aw_isub (pc := 105) dX12_round_105 ?_
              exact aw_sel [0, 1] rfl (w_m_round_106 N d hd  _ ih _ _ _ _ _ h)
            · rw [if_pos hc] at h
              refine aw_aload_n (pc := 94) (q := 0) dX12_round_94 rfl ?_
              refine aw_getf (pc := 95) (v := .inl (w 49 22)) dX12_round_95 fl_RX12_270 (by decide) rfl rfl rfl ?_
              refine aw_iconst (pc := 98) dX12_round_98 ⟨by decide, by decide⟩ ?_
              refine aw_isub (pc := 99) dX12_round_99 ?_
              refine aw_goto (pc := 100) (tgt := 106) dX12_round_100 (by decide) ?_
              exact aw_sel [0, 1] rfl (w_m_round_106 N d hd  _ ih _ _ _ _ _ h)
          · rw [if_neg hc2] at h
            by_cases hc3 : (w 54 ((aw_w ((aw_w (4 * x1)) + 2)).toNat)) = 3
            · rw [if_pos hc3] at h
              refine aw_tabIn (pc := 20) (tgt := 111) (off := 91) dX12_round_20 (by omega) (by omega) (by rw [hc3]; rfl) (by decide) ?_
              refine aw_aload_n (pc := 111) (q := 0) dX12_round_111 rfl ?_
              refine aw_getf (pc := 112) (v := .inr (.inr 68)) dX12_round_112 fl_RX12_84 (by decide) rfl rfl rfl ?_
              refine aw_iload_n (pc := 115) (q := 1) dX12_round_115 rfl ?_
              refine aw_aload_n (pc := 116) (q := 0) dX12_round_116 rfl ?_
              refine aw_getf (pc := 117) (v := .inr (.inr 56)) dX12_round_117 fl_RX12_43 (by decide) rfl rfl rfl ?_
              refine aw_iconst (pc := 120) dX12_round_120 ⟨by decide, by decide⟩ ?_
              refine aw_ialdv (pc := 121) (v := w 56 4) dX12_round_121 rfl (by decide) (by decide) rfl ?_
              obtain ⟨hb, h⟩ := aw_cks h
              refine aw_iast (pc := 122) dX12_round_122 rfl hb.1 hb.2 ?_
              refine aw_goto (pc := 123) (tgt := 158) dX12_round_123 (by decide) ?_
              exact aw_sel [0, 1] rfl (w_m_round_158 N d hd  _ ih _ _ _ h)
            · rw [if_neg hc3] at h
              refine aw_tabOut (pc := 20) (tgt := 126) dX12_round_20 (by omega) (by decide) ?_
              refine aw_aload_n (pc := 126) (q := 0) dX12_round_126 rfl ?_
              refine aw_getf (pc := 127) (v := .inr (.inr 68)) dX12_round_127 fl_RX12_84 (by decide) rfl rfl rfl ?_
              refine aw_iload_n (pc := 130) (q := 1) dX12_round_130 rfl ?_
              refine aw_aload_n (pc := 131) (q := 0) dX12_round_131 rfl ?_
              refine aw_getf (pc := 132) (v := .inr (.inr 64)) dX12_round_132 fl_RX12_72 (by decide) rfl rfl rfl ?_
              refine aw_iload_n (pc := 135) (q := 1) dX12_round_135 rfl ?_
              obtain ⟨hb, h⟩ := aw_cks h
              refine aw_ialdv (pc := 136) (v := w 64 x1.toNat) dX12_round_136 rfl hb.1 hb.2 rfl ?_
              refine aw_if_ne (pc := 137) (tgt := 149) dX12_round_137 (by decide) (fun hc => ?_) (fun hc => ?_)
              · rw [if_neg hc] at h
                refine aw_aload_n (pc := 149) (q := 0) dX12_round_149 rfl ?_
                refine aw_getf (pc := 150) (v := .inr (.inr 64)) dX12_round_150 fl_RX12_72 (by decide) rfl rfl rfl ?_
                refine aw_iload_n (pc := 153) (q := 1) dX12_round_153 rfl ?_
                obtain ⟨hb, h⟩ := aw_cks h
                refine aw_ialdv (pc := 154) (v := w 64 x1.toNat) dX12_round_154 rfl hb.1 hb.2 rfl ?_
                refine aw_iconst (pc := 155) dX12_round_155 ⟨by decide, by decide⟩ ?_
                refine aw_isub (pc := 156) dX12_round_156 ?_
                exact aw_sel [0, 1] rfl (w_m_round_157 N d hd  _ ih _ _ _ _ _ h)
              · rw [if_pos hc] at h
                refine aw_aload_n (pc := 140) (q := 0) dX12_round_140 rfl ?_
                refine aw_getf (pc := 141) (v := .inr (.inr 56)) dX12_round_141 fl_RX12_43 (by decide) rfl rfl rfl ?_
                refine aw_iconst (pc := 144) dX12_round_144 ⟨by decide, by decide⟩ ?_
                refine aw_ialdv (pc := 145) (v := w 56 4) dX12_round_145 rfl (by decide) (by decide) rfl ?_
                refine aw_goto (pc := 146) (tgt := 157) dX12_round_146 (by decide) ?_
                exact aw_sel [0, 1] rfl (w_m_round_157 N d hd  _ ih _ _ _ _ _ h)
def m_round (N : Nat) (w : aw_W) : Option (aw_W) :=
  m_round_2 N N 0 w
theorem w_m_round_d {l : Launch} {K : aw_K} (N d : Nat) (hd : 4 ≤ d) : ∀ (w v : aw_W), m_round N w = some v → aw_Met l K MX12_round (d + 1) [.inr (.inr 49)] w (none, v) := by
  intro w v h
  unfold m_round at h
  refine aw_enter rfl (Nat.le_of_ble_eq_true rfl) ?_
  show aw_AW l K MX12_round (d + 1) 0 [(0, .inr (.inr 49))] [] w (none, v)
  refine aw_iconst (pc := 0) dX12_round_0 ⟨by decide, by decide⟩ ?_
  refine aw_istore_n (pc := 1) (ls' := [(1, .inl 0), (0, .inr (.inr 49))]) dX12_round_1 (by decide) rfl ?_
  exact aw_sel [1, 0] rfl (w_m_round_2 N d hd  N _ _ _ h)
theorem w_m_round {l : Launch} {K : aw_K} (N d : Nat) (hd : 5 ≤ d) : ∀ (w v : aw_W), m_round N w = some v → aw_Met l K MX12_round (d) [.inr (.inr 49)] w (none, v) := by
  obtain ⟨e, rfl⟩ : ∃ e, d = e + 1 := ⟨d - 1, by omega⟩
  exact w_m_round_d N e (by omega)
theorem dX12_ringFrom_0 : decode cX12_ringFrom 0 = .ok (.iconst 1, 1) := by decide +kernel
theorem dX12_ringFrom_1 : decode cX12_ringFrom 1 = .ok (.istore_n 1, 1) := by decide +kernel
theorem dX12_ringFrom_2 : decode cX12_ringFrom 2 = .ok (.iconst 1, 1) := by decide +kernel
theorem dX12_ringFrom_3 : decode cX12_ringFrom 3 = .ok (.istore_n 2, 1) := by decide +kernel
theorem dX12_ringFrom_4 : decode cX12_ringFrom 4 = .ok (.aload_n 0, 1) := by decide +kernel
theorem dX12_ringFrom_5 : decode cX12_ringFrom 5 = .ok (.invokevirtual 378, 3) := by decide +kernel
theorem dX12_ringFrom_8 : decode cX12_ringFrom 8 = .ok (.istore_n 3, 1) := by decide +kernel
theorem dX12_ringFrom_9 : decode cX12_ringFrom 9 = .ok (.aload_n 0, 1) := by decide +kernel
theorem dX12_ringFrom_10 : decode cX12_ringFrom 10 = .ok (.invokevirtual 405, 3) := by decide +kernel
theorem dX12_ringFrom_13 : decode cX12_ringFrom 13 = .ok (.aload_n 0, 1) := by decide +kernel
theorem dX12_ringFrom_14 : decode cX12_ringFrom 14 = .ok (.invokevirtual 378, 3) := by decide +kernel
theorem dX12_ringFrom_17 : decode cX12_ringFrom 17 = .ok (.iload_n 3, 1) := by decide +kernel
theorem dX12_ringFrom_18 : decode cX12_ringFrom 18 = .ok (.if_icmp .eq 29, 3) := by decide +kernel
theorem dX12_ringFrom_21 : decode cX12_ringFrom 21 = .ok (.iload_n 1, 1) := by decide +kernel
theorem dX12_ringFrom_22 : decode cX12_ringFrom 22 = .ok (.iload_n 2, 1) := by decide +kernel
theorem dX12_ringFrom_23 : decode cX12_ringFrom 23 = .ok (.if_icmp .ne 14, 3) := by decide +kernel
theorem dX12_ringFrom_26 : decode cX12_ringFrom 26 = .ok (.aload_n 0, 1) := by decide +kernel
theorem dX12_ringFrom_27 : decode cX12_ringFrom 27 = .ok (.invokevirtual 378, 3) := by decide +kernel
theorem dX12_ringFrom_30 : decode cX12_ringFrom 30 = .ok (.istore_n 3, 1) := by decide +kernel
theorem dX12_ringFrom_31 : decode cX12_ringFrom 31 = .ok (.iload_n 1, 1) := by decide +kernel
theorem dX12_ringFrom_32 : decode cX12_ringFrom 32 = .ok (.iconst 2, 1) := by decide +kernel
theorem dX12_ringFrom_33 : decode cX12_ringFrom 33 = .ok (.imul, 1) := by decide +kernel
theorem dX12_ringFrom_34 : decode cX12_ringFrom 34 = .ok (.istore_n 1, 1) := by decide +kernel
theorem dX12_ringFrom_35 : decode cX12_ringFrom 35 = .ok (.iconst 0, 1) := by decide +kernel
theorem dX12_ringFrom_36 : decode cX12_ringFrom 36 = .ok (.istore_n 2, 1) := by decide +kernel
theorem dX12_ringFrom_37 : decode cX12_ringFrom 37 = .ok (.aload_n 0, 1) := by decide +kernel
theorem dX12_ringFrom_38 : decode cX12_ringFrom 38 = .ok (.invokevirtual 405, 3) := by decide +kernel
theorem dX12_ringFrom_41 : decode cX12_ringFrom 41 = .ok (.iinc 2 1, 3) := by decide +kernel
theorem dX12_ringFrom_44 : decode cX12_ringFrom 44 = .ok (.goto (-31), 3) := by decide +kernel
theorem dX12_ringFrom_47 : decode cX12_ringFrom 47 = .ok (.iload_n 2, 1) := by decide +kernel
theorem dX12_ringFrom_48 : decode cX12_ringFrom 48 = .ok (.ireturn, 1) := by decide +kernel
def m_ringFrom_47 (N : Nat) (x2 : Int) (w : aw_W) : Option (Int × aw_W) :=
  some (x2, w)
theorem w_m_ringFrom_47 {l : Launch} {K : aw_K} (N d : Nat) (hd : 5 ≤ d) : ∀ (x2 : Int) (w : aw_W) (y : Int) (v : aw_W), m_ringFrom_47 N x2 w = some (y, v) → aw_AW l K MX12_ringFrom (d + 1) 47 [(2, .inl x2)] [] w (some (.inl y), v) := by
  intro x2 w y v h
  unfold m_ringFrom_47 at h
  refine aw_iload_n (pc := 47) (q := 0) dX12_ringFrom_47 rfl ?_
  cases h
  exact aw_iret (pc := 48) rfl dX12_ringFrom_48
def m_ringFrom_37 (N : Nat) (k13 : Int → Int → Int → aw_W → Option (Int × aw_W)) (x1 x2 x3 : Int) (w : aw_W) : Option (Int × aw_W) :=
  aw_b1 (m_round N w) fun w1 =>
    k13 x1 (aw_w (x2 + 1)) x3 w1
theorem w_m_ringFrom_37 {l : Launch} {K : aw_K} (N d : Nat) (hd : 5 ≤ d) (k13 : Int → Int → Int → aw_W → Option (Int × aw_W)) (hk13 : ∀ (x1 x2 x3 : Int) (w : aw_W) (y : Int) (v : aw_W), k13 x1 x2 x3 w = some (y, v) → aw_AW l K MX12_ringFrom (d + 1) 13 [(0, .inr (.inr 49)), (1, .inl x1), (2, .inl x2), (3, .inl x3)] [] w (some (.inl y), v)) : ∀ (x1 x2 x3 : Int) (w : aw_W) (y : Int) (v : aw_W), m_ringFrom_37 N k13 x1 x2 x3 w = some (y, v) → aw_AW l K MX12_ringFrom (d + 1) 37 [(0, .inr (.inr 49)), (1, .inl x1), (2, .inl x2), (3, .inl x3)] [] w (some (.inl y), v) := by
  intro x1 x2 x3 w y v h
  unfold m_ringFrom_37 at h
  refine aw_aload_n (pc := 37) (q := 0) dX12_ringFrom_37 rfl ?_
  obtain ⟨w1, h1, h⟩ := aw_b1s h
  refine aw_callV (pc := 38) (as := []) (st := []) (st' := []) dX12_ringFrom_38 cv_RX12_405 (by decide) rfl rfl rfl rfl (Nat.le_of_ble_eq_true rfl) (w_m_round N d (by omega) _ _ h1) rfl ?_
  refine aw_iinc (pc := 41) (q := 2) (ls' := [(2, .inl (aw_w (x2 + 1))), (0, .inr (.inr 49)), (1, .inl x1), (3, .inl x3)]) dX12_ringFrom_41 rfl (by decide) rfl ?_
  refine aw_goto (pc := 44) (tgt := 13) dX12_ringFrom_44 (by decide) ?_
  exact aw_sel [1, 2, 0, 3] rfl (hk13 _ _ _ _ _ _ h)
def m_ringFrom_13 (N : Nat) : Nat → Int → Int → Int → aw_W → Option (Int × aw_W)
  | 0, _, _, _, _ => none
  | n + 1, x1, x2, x3, w =>
    aw_b2 (m_rowOf N w) fun r1 w1 =>
      if r1 = x3 then
        m_ringFrom_47 N x2 w1
      else
        if x1 = x2 then
          aw_b2 (m_rowOf N w1) fun r2 w2 =>
            m_ringFrom_37 N (m_ringFrom_13 N n) (aw_w (x1 * 2)) 0 r2 w2
        else
          m_ringFrom_37 N (m_ringFrom_13 N n) x1 x2 x3 w1
theorem w_m_ringFrom_13 {l : Launch} {K : aw_K} (N d : Nat) (hd : 5 ≤ d) : ∀ (n : Nat) (x1 x2 x3 : Int) (w : aw_W) (y : Int) (v : aw_W), m_ringFrom_13 N n x1 x2 x3 w = some (y, v) → aw_AW l K MX12_ringFrom (d + 1) 13 [(0, .inr (.inr 49)), (1, .inl x1), (2, .inl x2), (3, .inl x3)] [] w (some (.inl y), v) := by
  intro n
  induction n with
  | zero => intro x1 x2 x3 w y v h; rw [m_ringFrom_13] at h; cases h
  | succ n ih =>
    intro x1 x2 x3 w y v h
    rw [m_ringFrom_13] at h
    refine aw_aload_n (pc := 13) (q := 0) dX12_ringFrom_13 rfl ?_
    obtain ⟨r1, w1, h1, h⟩ := aw_b2s h
    refine aw_callV (pc := 14) (as := []) (st := []) (st' := [.inl r1]) dX12_ringFrom_14 cv_RX12_378 (by decide) rfl rfl rfl rfl (Nat.le_of_ble_eq_true rfl) (w_m_rowOf N d (by omega) _ _ _ h1) rfl ?_
    refine aw_iload_n (pc := 17) (q := 3) dX12_ringFrom_17 rfl ?_
    refine aw_icmp_eq (pc := 18) (tgt := 47) dX12_ringFrom_18 (by decide) (fun hc => ?_) (fun hc => ?_)
    · rw [if_pos hc] at h
      exact aw_sel [2] rfl (w_m_ringFrom_47 N d hd  _ _ _ _ h)
    · rw [if_neg hc] at h
      refine aw_iload_n (pc := 21) (q := 1) dX12_ringFrom_21 rfl ?_
      refine aw_iload_n (pc := 22) (q := 2) dX12_ringFrom_22 rfl ?_
      refine aw_icmp_ne (pc := 23) (tgt := 37) dX12_ringFrom_23 (by decide) (fun hc => ?_) (fun hc => ?_)
      · rw [if_neg hc] at h
        exact aw_sel [0, 1, 2, 3] rfl (w_m_ringFrom_37 N d hd  _ ih _ _ _ _ _ _ h)
      · rw [if_pos hc] at h
        refine aw_aload_n (pc := 26) (q := 0) dX12_ringFrom_26 rfl ?_
        obtain ⟨r2, w2, h2, h⟩ := aw_b2s h
        refine aw_callV (pc := 27) (as := []) (st := []) (st' := [.inl r2]) dX12_ringFrom_27 cv_RX12_378 (by decide) rfl rfl rfl rfl (Nat.le_of_ble_eq_true rfl) (w_m_rowOf N d (by omega) _ _ _ h2) rfl ?_
        refine aw_istore_n (pc := 30) (ls' := [(3, .inl r2), (0, .inr (.inr 49)), (1, .inl x1), (2, .inl x2)]) dX12_ringFrom_30 (by decide) rfl ?_
        refine aw_iload_n (pc := 31) (q := 2) dX12_ringFrom_31 rfl ?_
        refine aw_iconst (pc := 32) dX12_ringFrom_32 ⟨by decide, by decide⟩ ?_
        refine aw_imul (pc := 33) dX12_ringFrom_33 ?_
        refine aw_istore_n (pc := 34) (ls' := [(1, .inl (aw_w (x1 * 2))), (3, .inl r2), (0, .inr (.inr 49)), (2, .inl x2)]) dX12_ringFrom_34 (by decide) rfl ?_
        refine aw_iconst (pc := 35) dX12_ringFrom_35 ⟨by decide, by decide⟩ ?_
        refine aw_istore_n (pc := 36) (ls' := [(2, .inl 0), (1, .inl (aw_w (x1 * 2))), (3, .inl r2), (0, .inr (.inr 49))]) dX12_ringFrom_36 (by decide) rfl ?_
        exact aw_sel [3, 1, 0, 2] rfl (w_m_ringFrom_37 N d hd  _ ih _ _ _ _ _ _ h)
def m_ringFrom (N : Nat) (w : aw_W) : Option (Int × aw_W) :=
  aw_b2 (m_rowOf N w) fun r1 w1 =>
    aw_b1 (m_round N w1) fun w2 =>
      m_ringFrom_13 N N 1 1 r1 w2
theorem w_m_ringFrom_d {l : Launch} {K : aw_K} (N d : Nat) (hd : 5 ≤ d) : ∀ (w : aw_W) (y : Int) (v : aw_W), m_ringFrom N w = some (y, v) → aw_Met l K MX12_ringFrom (d + 1) [.inr (.inr 49)] w (some (.inl y), v) := by
  intro w y v h
  unfold m_ringFrom at h
  refine aw_enter rfl (Nat.le_of_ble_eq_true rfl) ?_
  show aw_AW l K MX12_ringFrom (d + 1) 0 [(0, .inr (.inr 49))] [] w (some (.inl y), v)
  refine aw_iconst (pc := 0) dX12_ringFrom_0 ⟨by decide, by decide⟩ ?_
  refine aw_istore_n (pc := 1) (ls' := [(1, .inl 1), (0, .inr (.inr 49))]) dX12_ringFrom_1 (by decide) rfl ?_
  refine aw_iconst (pc := 2) dX12_ringFrom_2 ⟨by decide, by decide⟩ ?_
  refine aw_istore_n (pc := 3) (ls' := [(2, .inl 1), (1, .inl 1), (0, .inr (.inr 49))]) dX12_ringFrom_3 (by decide) rfl ?_
  refine aw_aload_n (pc := 4) (q := 2) dX12_ringFrom_4 rfl ?_
  obtain ⟨r1, w1, h1, h⟩ := aw_b2s h
  refine aw_callV (pc := 5) (as := []) (st := []) (st' := [.inl r1]) dX12_ringFrom_5 cv_RX12_378 (by decide) rfl rfl rfl rfl (Nat.le_of_ble_eq_true rfl) (w_m_rowOf N d (by omega) _ _ _ h1) rfl ?_
  refine aw_istore_n (pc := 8) (ls' := [(3, .inl r1), (2, .inl 1), (1, .inl 1), (0, .inr (.inr 49))]) dX12_ringFrom_8 (by decide) rfl ?_
  refine aw_aload_n (pc := 9) (q := 3) dX12_ringFrom_9 rfl ?_
  obtain ⟨w2, h2, h⟩ := aw_b1s h
  refine aw_callV (pc := 10) (as := []) (st := []) (st' := []) dX12_ringFrom_10 cv_RX12_405 (by decide) rfl rfl rfl rfl (Nat.le_of_ble_eq_true rfl) (w_m_round N d (by omega) _ _ h2) rfl ?_
  exact aw_sel [3, 2, 1, 0] rfl (w_m_ringFrom_13 N d hd  N _ _ _ _ _ _ h)
theorem w_m_ringFrom {l : Launch} {K : aw_K} (N d : Nat) (hd : 6 ≤ d) : ∀ (w : aw_W) (y : Int) (v : aw_W), m_ringFrom N w = some (y, v) → aw_Met l K MX12_ringFrom (d) [.inr (.inr 49)] w (some (.inl y), v) := by
  obtain ⟨e, rfl⟩ : ∃ e, d = e + 1 := ⟨d - 1, by omega⟩
  exact w_m_ringFrom_d N e (by omega)
theorem dX12_rounds_0 : decode cX12_rounds 0 = .ok (.aload_n 0, 1) := by decide +kernel
theorem dX12_rounds_1 : decode cX12_rounds 1 = .ok (.iconst 0, 1) := by decide +kernel
theorem dX12_rounds_2 : decode cX12_rounds 2 = .ok (.putfield 99, 3) := by decide +kernel
theorem dX12_rounds_5 : decode cX12_rounds 5 = .ok (.aload_n 0, 1) := by decide +kernel
theorem dX12_rounds_6 : decode cX12_rounds 6 = .ok (.getfield 270, 3) := by decide +kernel
theorem dX12_rounds_9 : decode cX12_rounds 9 = .ok (.ifCond .eq 15, 3) := by decide +kernel
theorem dX12_rounds_12 : decode cX12_rounds 12 = .ok (.iload_n 1, 1) := by decide +kernel
theorem dX12_rounds_13 : decode cX12_rounds 13 = .ok (.i2l, 1) := by decide +kernel
theorem dX12_rounds_14 : decode cX12_rounds 14 = .ok (.lconst 0, 1) := by decide +kernel
theorem dX12_rounds_15 : decode cX12_rounds 15 = .ok (.ldc2_w 313, 3) := by decide +kernel
theorem dX12_rounds_18 : decode cX12_rounds 18 = .ok (.invokestatic 227, 3) := by decide +kernel
theorem dX12_rounds_21 : decode cX12_rounds 21 = .ok (.ifCond .ne 7, 3) := by decide +kernel
theorem dX12_rounds_24 : decode cX12_rounds 24 = .ok (.ldc_w 315, 3) := by decide +kernel
theorem dX12_rounds_27 : decode cX12_rounds 27 = .ok (.ireturn, 1) := by decide +kernel
theorem dX12_rounds_28 : decode cX12_rounds 28 = .ok (.iconst 0, 1) := by decide +kernel
theorem dX12_rounds_29 : decode cX12_rounds 29 = .ok (.istore_n 2, 1) := by decide +kernel
theorem dX12_rounds_30 : decode cX12_rounds 30 = .ok (.iload_n 2, 1) := by decide +kernel
theorem dX12_rounds_31 : decode cX12_rounds 31 = .ok (.aload_n 0, 1) := by decide +kernel
theorem dX12_rounds_32 : decode cX12_rounds 32 = .ok (.getfield 270, 3) := by decide +kernel
theorem dX12_rounds_35 : decode cX12_rounds 35 = .ok (.if_icmp .ge 21, 3) := by decide +kernel
theorem dX12_rounds_38 : decode cX12_rounds 38 = .ok (.aload_n 0, 1) := by decide +kernel
theorem dX12_rounds_39 : decode cX12_rounds 39 = .ok (.getfield 72, 3) := by decide +kernel
theorem dX12_rounds_42 : decode cX12_rounds 42 = .ok (.iload_n 2, 1) := by decide +kernel
theorem dX12_rounds_43 : decode cX12_rounds 43 = .ok (.aload_n 0, 1) := by decide +kernel
theorem dX12_rounds_44 : decode cX12_rounds 44 = .ok (.iload_n 2, 1) := by decide +kernel
theorem dX12_rounds_45 : decode cX12_rounds 45 = .ok (.iconst 3, 1) := by decide +kernel
theorem dX12_rounds_46 : decode cX12_rounds 46 = .ok (.invokevirtual 399, 3) := by decide +kernel
theorem dX12_rounds_49 : decode cX12_rounds 49 = .ok (.iastore, 1) := by decide +kernel
theorem dX12_rounds_50 : decode cX12_rounds 50 = .ok (.iinc 2 1, 3) := by decide +kernel
theorem dX12_rounds_53 : decode cX12_rounds 53 = .ok (.goto (-23), 3) := by decide +kernel
theorem dX12_rounds_56 : decode cX12_rounds 56 = .ok (.iconst (-1), 1) := by decide +kernel
theorem dX12_rounds_57 : decode cX12_rounds 57 = .ok (.istore_n 2, 1) := by decide +kernel
theorem dX12_rounds_58 : decode cX12_rounds 58 = .ok (.aload_n 0, 1) := by decide +kernel
theorem dX12_rounds_59 : decode cX12_rounds 59 = .ok (.invokevirtual 378, 3) := by decide +kernel
theorem dX12_rounds_62 : decode cX12_rounds 62 = .ok (.istore_n 3, 1) := by decide +kernel
theorem dX12_rounds_63 : decode cX12_rounds 63 = .ok (.iconst 0, 1) := by decide +kernel
theorem dX12_rounds_64 : decode cX12_rounds 64 = .ok (.istore 4, 2) := by decide +kernel
theorem dX12_rounds_66 : decode cX12_rounds 66 = .ok (.iload 4, 2) := by decide +kernel
theorem dX12_rounds_68 : decode cX12_rounds 68 = .ok (.bipush 100, 2) := by decide +kernel
theorem dX12_rounds_70 : decode cX12_rounds 70 = .ok (.if_icmp .gt 34, 3) := by decide +kernel
theorem dX12_rounds_73 : decode cX12_rounds 73 = .ok (.iload_n 2, 1) := by decide +kernel
theorem dX12_rounds_74 : decode cX12_rounds 74 = .ok (.iconst (-1), 1) := by decide +kernel
theorem dX12_rounds_75 : decode cX12_rounds 75 = .ok (.if_icmp .ne 29, 3) := by decide +kernel
theorem dX12_rounds_78 : decode cX12_rounds 78 = .ok (.aload_n 0, 1) := by decide +kernel
theorem dX12_rounds_79 : decode cX12_rounds 79 = .ok (.invokevirtual 378, 3) := by decide +kernel
theorem dX12_rounds_82 : decode cX12_rounds 82 = .ok (.istore_n 3, 1) := by decide +kernel
theorem dX12_rounds_83 : decode cX12_rounds 83 = .ok (.aload_n 0, 1) := by decide +kernel
theorem dX12_rounds_84 : decode cX12_rounds 84 = .ok (.invokevirtual 405, 3) := by decide +kernel
theorem dX12_rounds_87 : decode cX12_rounds 87 = .ok (.aload_n 0, 1) := by decide +kernel
theorem dX12_rounds_88 : decode cX12_rounds 88 = .ok (.invokevirtual 378, 3) := by decide +kernel
theorem dX12_rounds_91 : decode cX12_rounds 91 = .ok (.iload_n 3, 1) := by decide +kernel
theorem dX12_rounds_92 : decode cX12_rounds 92 = .ok (.if_icmp .ne 6, 3) := by decide +kernel
theorem dX12_rounds_95 : decode cX12_rounds 95 = .ok (.iload 4, 2) := by decide +kernel
theorem dX12_rounds_97 : decode cX12_rounds 97 = .ok (.istore_n 2, 1) := by decide +kernel
theorem dX12_rounds_98 : decode cX12_rounds 98 = .ok (.iinc 4 1, 3) := by decide +kernel
theorem dX12_rounds_101 : decode cX12_rounds 101 = .ok (.goto (-35), 3) := by decide +kernel
theorem dX12_rounds_104 : decode cX12_rounds 104 = .ok (.aload_n 0, 1) := by decide +kernel
theorem dX12_rounds_105 : decode cX12_rounds 105 = .ok (.iload_n 3, 1) := by decide +kernel
theorem dX12_rounds_106 : decode cX12_rounds 106 = .ok (.invokevirtual 342, 3) := by decide +kernel
theorem dX12_rounds_109 : decode cX12_rounds 109 = .ok (.istore 4, 2) := by decide +kernel
theorem dX12_rounds_111 : decode cX12_rounds 111 = .ok (.iload_n 1, 1) := by decide +kernel
theorem dX12_rounds_112 : decode cX12_rounds 112 = .ok (.ifCond .ne 7, 3) := by decide +kernel
theorem dX12_rounds_115 : decode cX12_rounds 115 = .ok (.iload_n 2, 1) := by decide +kernel
theorem dX12_rounds_116 : decode cX12_rounds 116 = .ok (.goto 16, 3) := by decide +kernel
theorem dX12_rounds_119 : decode cX12_rounds 119 = .ok (.iload_n 1, 1) := by decide +kernel
theorem dX12_rounds_120 : decode cX12_rounds 120 = .ok (.iconst 1, 1) := by decide +kernel
theorem dX12_rounds_121 : decode cX12_rounds 121 = .ok (.if_icmp .ne 7, 3) := by decide +kernel
theorem dX12_rounds_124 : decode cX12_rounds 124 = .ok (.iload_n 3, 1) := by decide +kernel
theorem dX12_rounds_125 : decode cX12_rounds 125 = .ok (.goto 7, 3) := by decide +kernel
theorem dX12_rounds_128 : decode cX12_rounds 128 = .ok (.aload_n 0, 1) := by decide +kernel
theorem dX12_rounds_129 : decode cX12_rounds 129 = .ok (.invokevirtual 408, 3) := by decide +kernel
theorem dX12_rounds_132 : decode cX12_rounds 132 = .ok (.ireturn, 1) := by decide +kernel
def m_rounds_24 (N : Nat) (w : aw_W) : Option (Int × aw_W) :=
  some ((-1000000), w)
theorem w_m_rounds_24 {l : Launch} {K : aw_K} (N d : Nat) (hd : 6 ≤ d) : ∀ (w : aw_W) (y : Int) (v : aw_W), m_rounds_24 N w = some (y, v) → aw_AW l K MX12_rounds (d + 1) 24 [] [] w (some (.inl y), v) := by
  intro w y v h
  unfold m_rounds_24 at h
  refine aw_ldcw (pc := 24) (x := (-1000000)) dX12_rounds_24 cn_RX12_315 ⟨by decide, by decide⟩ ?_
  cases h
  exact aw_iret (pc := 27) rfl dX12_rounds_27
def m_rounds_132 (N : Nat) (s0 : Int) (w : aw_W) : Option (Int × aw_W) :=
  some (s0, w)
theorem w_m_rounds_132 {l : Launch} {K : aw_K} (N d : Nat) (hd : 6 ≤ d) : ∀ (s0 : Int) (w : aw_W) (y : Int) (v : aw_W), m_rounds_132 N s0 w = some (y, v) → aw_AW l K MX12_rounds (d + 1) 132 [] [.inl s0] w (some (.inl y), v) := by
  intro s0 w y v h
  unfold m_rounds_132 at h
  cases h
  exact aw_iret (pc := 132) rfl dX12_rounds_132
def m_rounds_104 (N : Nat) (x1 x2 x3 : Int) (w : aw_W) : Option (Int × aw_W) :=
  aw_b2 (m_lay N x3 w) fun r1 w1 =>
    if x1 = 0 then
      m_rounds_132 N x2 w1
    else
      if x1 = 1 then
        m_rounds_132 N x3 w1
      else
        aw_b2 (m_ringFrom N w1) fun r2 w2 =>
          m_rounds_132 N r2 w2
theorem w_m_rounds_104 {l : Launch} {K : aw_K} (N d : Nat) (hd : 6 ≤ d) : ∀ (x1 x2 x3 : Int) (w : aw_W) (y : Int) (v : aw_W), m_rounds_104 N x1 x2 x3 w = some (y, v) → aw_AW l K MX12_rounds (d + 1) 104 [(0, .inr (.inr 49)), (1, .inl x1), (2, .inl x2), (3, .inl x3)] [] w (some (.inl y), v) := by
  intro x1 x2 x3 w y v h
  unfold m_rounds_104 at h
  refine aw_aload_n (pc := 104) (q := 0) dX12_rounds_104 rfl ?_
  refine aw_iload_n (pc := 105) (q := 3) dX12_rounds_105 rfl ?_
  obtain ⟨r1, w1, h1, h⟩ := aw_b2s h
  refine aw_callV (pc := 106) (as := [.inl x3]) (st := []) (st' := [.inl r1]) dX12_rounds_106 cv_RX12_342 (by decide) rfl rfl rfl rfl (Nat.le_of_ble_eq_true rfl) (w_m_lay N d (by omega) _ _ _ _ h1) rfl ?_
  refine aw_istore (pc := 109) (ls' := [(4, .inl r1), (0, .inr (.inr 49)), (1, .inl x1), (2, .inl x2), (3, .inl x3)]) dX12_rounds_109 (by decide) rfl ?_
  refine aw_iload_n (pc := 111) (q := 2) dX12_rounds_111 rfl ?_
  refine aw_if_ne (pc := 112) (tgt := 119) dX12_rounds_112 (by decide) (fun hc => ?_) (fun hc => ?_)
  · rw [if_neg hc] at h
    refine aw_iload_n (pc := 119) (q := 2) dX12_rounds_119 rfl ?_
    refine aw_iconst (pc := 120) dX12_rounds_120 ⟨by decide, by decide⟩ ?_
    refine aw_icmp_ne (pc := 121) (tgt := 128) dX12_rounds_121 (by decide) (fun hc => ?_) (fun hc => ?_)
    · rw [if_neg hc] at h
      refine aw_aload_n (pc := 128) (q := 1) dX12_rounds_128 rfl ?_
      obtain ⟨r2, w2, h2, h⟩ := aw_b2s h
      refine aw_callV (pc := 129) (as := []) (st := []) (st' := [.inl r2]) dX12_rounds_129 cv_RX12_408 (by decide) rfl rfl rfl rfl (Nat.le_of_ble_eq_true rfl) (w_m_ringFrom N d (by omega) _ _ _ h2) rfl ?_
      exact aw_sel [] rfl (w_m_rounds_132 N d hd  _ _ _ _ h)
    · rw [if_pos hc] at h
      refine aw_iload_n (pc := 124) (q := 4) dX12_rounds_124 rfl ?_
      refine aw_goto (pc := 125) (tgt := 132) dX12_rounds_125 (by decide) ?_
      exact aw_sel [] rfl (w_m_rounds_132 N d hd  _ _ _ _ h)
  · rw [if_pos hc] at h
    refine aw_iload_n (pc := 115) (q := 3) dX12_rounds_115 rfl ?_
    refine aw_goto (pc := 116) (tgt := 132) dX12_rounds_116 (by decide) ?_
    exact aw_sel [] rfl (w_m_rounds_132 N d hd  _ _ _ _ h)
def m_rounds_98 (N : Nat) (k66 : Int → Int → Int → Int → aw_W → Option (Int × aw_W)) (x1 x2 x3 x4 : Int) (w : aw_W) : Option (Int × aw_W) :=
  k66 x1 x2 x3 (aw_w (x4 + 1)) w
theorem w_m_rounds_98 {l : Launch} {K : aw_K} (N d : Nat) (hd : 6 ≤ d) (k66 : Int → Int → Int → Int → aw_W → Option (Int × aw_W)) (hk66 : ∀ (x1 x2 x3 x4 : Int) (w : aw_W) (y : Int) (v : aw_W), k66 x1 x2 x3 x4 w = some (y, v) → aw_AW l K MX12_rounds (d + 1) 66 [(0, .inr (.inr 49)), (1, .inl x1), (2, .inl x2), (3, .inl x3), (4, .inl x4)] [] w (some (.inl y), v)) : ∀ (x1 x2 x3 x4 : Int) (w : aw_W) (y : Int) (v : aw_W), m_rounds_98 N k66 x1 x2 x3 x4 w = some (y, v) → aw_AW l K MX12_rounds (d + 1) 98 [(0, .inr (.inr 49)), (1, .inl x1), (2, .inl x2), (3, .inl x3), (4, .inl x4)] [] w (some (.inl y), v) := by
  intro x1 x2 x3 x4 w y v h
  unfold m_rounds_98 at h
  refine aw_iinc (pc := 98) (q := 4) (ls' := [(4, .inl (aw_w (x4 + 1))), (0, .inr (.inr 49)), (1, .inl x1), (2, .inl x2), (3, .inl x3)]) dX12_rounds_98 rfl (by decide) rfl ?_
  refine aw_goto (pc := 101) (tgt := 66) dX12_rounds_101 (by decide) ?_
  exact aw_sel [1, 2, 3, 4, 0] rfl (hk66 _ _ _ _ _ _ _ h)
def m_rounds_66 (N : Nat) : Nat → Int → Int → Int → Int → aw_W → Option (Int × aw_W)
  | 0, _, _, _, _, _ => none
  | n + 1, x1, x2, x3, x4, w =>
    if 100 < x4 then
      m_rounds_104 N x1 x2 x3 w
    else
      if x2 = (-1) then
        aw_b2 (m_rowOf N w) fun r1 w1 =>
          aw_b1 (m_round N w1) fun w2 =>
            aw_b2 (m_rowOf N w2) fun r3 w3 =>
              if r3 = r1 then
                m_rounds_98 N (m_rounds_66 N n) x1 x4 r1 x4 w3
              else
                m_rounds_98 N (m_rounds_66 N n) x1 x2 r1 x4 w3
      else
        m_rounds_104 N x1 x2 x3 w
theorem w_m_rounds_66 {l : Launch} {K : aw_K} (N d : Nat) (hd : 6 ≤ d) : ∀ (n : Nat) (x1 x2 x3 x4 : Int) (w : aw_W) (y : Int) (v : aw_W), m_rounds_66 N n x1 x2 x3 x4 w = some (y, v) → aw_AW l K MX12_rounds (d + 1) 66 [(0, .inr (.inr 49)), (1, .inl x1), (2, .inl x2), (3, .inl x3), (4, .inl x4)] [] w (some (.inl y), v) := by
  intro n
  induction n with
  | zero => intro x1 x2 x3 x4 w y v h; rw [m_rounds_66] at h; cases h
  | succ n ih =>
    intro x1 x2 x3 x4 w y v h
    rw [m_rounds_66] at h
    refine aw_iload (pc := 66) (q := 4) dX12_rounds_66 rfl ?_
    refine aw_bipush (pc := 68) dX12_rounds_68 (by decide) ⟨by decide, by decide⟩ ?_
    refine aw_icmp_gt (pc := 70) (tgt := 104) dX12_rounds_70 (by decide) (fun hc => ?_) (fun hc => ?_)
    · rw [if_pos hc] at h
      exact aw_sel [0, 1, 2, 3] rfl (w_m_rounds_104 N d hd  _ _ _ _ _ _ h)
    · rw [if_neg hc] at h
      refine aw_iload_n (pc := 73) (q := 2) dX12_rounds_73 rfl ?_
      refine aw_iconst (pc := 74) dX12_rounds_74 ⟨by decide, by decide⟩ ?_
      refine aw_icmp_ne (pc := 75) (tgt := 104) dX12_rounds_75 (by decide) (fun hc => ?_) (fun hc => ?_)
      · rw [if_neg hc] at h
        exact aw_sel [0, 1, 2, 3] rfl (w_m_rounds_104 N d hd  _ _ _ _ _ _ h)
      · rw [if_pos hc] at h
        refine aw_aload_n (pc := 78) (q := 0) dX12_rounds_78 rfl ?_
        obtain ⟨r1, w1, h1, h⟩ := aw_b2s h
        refine aw_callV (pc := 79) (as := []) (st := []) (st' := [.inl r1]) dX12_rounds_79 cv_RX12_378 (by decide) rfl rfl rfl rfl (Nat.le_of_ble_eq_true rfl) (w_m_rowOf N d (by omega) _ _ _ h1) rfl ?_
        refine aw_istore_n (pc := 82) (ls' := [(3, .inl r1), (0, .inr (.inr 49)), (1, .inl x1), (2, .inl x2), (4, .inl x4)]) dX12_rounds_82 (by decide) rfl ?_
        refine aw_aload_n (pc := 83) (q := 1) dX12_rounds_83 rfl ?_
        obtain ⟨w2, h2, h⟩ := aw_b1s h
        refine aw_callV (pc := 84) (as := []) (st := []) (st' := []) dX12_rounds_84 cv_RX12_405 (by decide) rfl rfl rfl rfl (Nat.le_of_ble_eq_true rfl) (w_m_round N d (by omega) _ _ h2) rfl ?_
        refine aw_aload_n (pc := 87) (q := 1) dX12_rounds_87 rfl ?_
        obtain ⟨r3, w3, h3, h⟩ := aw_b2s h
        refine aw_callV (pc := 88) (as := []) (st := []) (st' := [.inl r3]) dX12_rounds_88 cv_RX12_378 (by decide) rfl rfl rfl rfl (Nat.le_of_ble_eq_true rfl) (w_m_rowOf N d (by omega) _ _ _ h3) rfl ?_
        refine aw_iload_n (pc := 91) (q := 0) dX12_rounds_91 rfl ?_
        refine aw_icmp_ne (pc := 92) (tgt := 98) dX12_rounds_92 (by decide) (fun hc => ?_) (fun hc => ?_)
        · rw [if_neg hc] at h
          exact aw_sel [1, 2, 3, 0, 4] rfl (w_m_rounds_98 N d hd  _ ih _ _ _ _ _ _ _ h)
        · rw [if_pos hc] at h
          refine aw_iload (pc := 95) (q := 4) dX12_rounds_95 rfl ?_
          refine aw_istore_n (pc := 97) (ls' := [(2, .inl x4), (3, .inl r1), (0, .inr (.inr 49)), (1, .inl x1), (4, .inl x4)]) dX12_rounds_97 (by decide) rfl ?_
          exact aw_sel [2, 3, 0, 1, 4] rfl (w_m_rounds_98 N d hd  _ ih _ _ _ _ _ _ _ h)
def m_rounds_56 (N : Nat) (x1 : Int) (w : aw_W) : Option (Int × aw_W) :=
  aw_b2 (m_rowOf N w) fun r1 w1 =>
    m_rounds_66 N N x1 (-1) r1 0 w1
theorem w_m_rounds_56 {l : Launch} {K : aw_K} (N d : Nat) (hd : 6 ≤ d) : ∀ (x1 : Int) (w : aw_W) (y : Int) (v : aw_W), m_rounds_56 N x1 w = some (y, v) → aw_AW l K MX12_rounds (d + 1) 56 [(0, .inr (.inr 49)), (1, .inl x1)] [] w (some (.inl y), v) := by
  intro x1 w y v h
  unfold m_rounds_56 at h
  refine aw_iconst (pc := 56) dX12_rounds_56 ⟨by decide, by decide⟩ ?_
  refine aw_istore_n (pc := 57) (ls' := [(2, .inl (-1)), (0, .inr (.inr 49)), (1, .inl x1)]) dX12_rounds_57 (by decide) rfl ?_
  refine aw_aload_n (pc := 58) (q := 1) dX12_rounds_58 rfl ?_
  obtain ⟨r1, w1, h1, h⟩ := aw_b2s h
  refine aw_callV (pc := 59) (as := []) (st := []) (st' := [.inl r1]) dX12_rounds_59 cv_RX12_378 (by decide) rfl rfl rfl rfl (Nat.le_of_ble_eq_true rfl) (w_m_rowOf N d (by omega) _ _ _ h1) rfl ?_
  refine aw_istore_n (pc := 62) (ls' := [(3, .inl r1), (2, .inl (-1)), (0, .inr (.inr 49)), (1, .inl x1)]) dX12_rounds_62 (by decide) rfl ?_
  refine aw_iconst (pc := 63) dX12_rounds_63 ⟨by decide, by decide⟩ ?_
  refine aw_istore (pc := 64) (ls' := [(4, .inl 0), (3, .inl r1), (2, .inl (-1)), (0, .inr (.inr 49)), (1, .inl x1)]) dX12_rounds_64 (by decide) rfl ?_
  exact aw_sel [3, 4, 2, 1, 0] rfl (w_m_rounds_66 N d hd  N _ _ _ _ _ _ _ h)
def m_rounds_30 (N : Nat) : Nat → Int → Int → aw_W → Option (Int × aw_W)
  | 0, _, _, _ => none
  | n + 1, x1, x2, w =>
    if (w 49 22) ≤ x2 then
      m_rounds_56 N x1 w
    else
      aw_b2 (m_told N x2 3 w) fun r1 w1 =>
        if 0 ≤ x2 ∧ x2 < 6 then
          m_rounds_30 N n x1 (aw_w (x2 + 1)) (aw_up w1 64 x2.toNat r1)
        else none
theorem w_m_rounds_30 {l : Launch} {K : aw_K} (N d : Nat) (hd : 6 ≤ d) : ∀ (n : Nat) (x1 x2 : Int) (w : aw_W) (y : Int) (v : aw_W), m_rounds_30 N n x1 x2 w = some (y, v) → aw_AW l K MX12_rounds (d + 1) 30 [(0, .inr (.inr 49)), (1, .inl x1), (2, .inl x2)] [] w (some (.inl y), v) := by
  intro n
  induction n with
  | zero => intro x1 x2 w y v h; rw [m_rounds_30] at h; cases h
  | succ n ih =>
    intro x1 x2 w y v h
    rw [m_rounds_30] at h
    refine aw_iload_n (pc := 30) (q := 2) dX12_rounds_30 rfl ?_
    refine aw_aload_n (pc := 31) (q := 0) dX12_rounds_31 rfl ?_
    refine aw_getf (pc := 32) (v := .inl (w 49 22)) dX12_rounds_32 fl_RX12_270 (by decide) rfl rfl rfl ?_
    refine aw_icmp_ge (pc := 35) (tgt := 56) dX12_rounds_35 (by decide) (fun hc => ?_) (fun hc => ?_)
    · rw [if_pos hc] at h
      exact aw_sel [0, 1] rfl (w_m_rounds_56 N d hd  _ _ _ _ h)
    · rw [if_neg hc] at h
      refine aw_aload_n (pc := 38) (q := 0) dX12_rounds_38 rfl ?_
      refine aw_getf (pc := 39) (v := .inr (.inr 64)) dX12_rounds_39 fl_RX12_72 (by decide) rfl rfl rfl ?_
      refine aw_iload_n (pc := 42) (q := 2) dX12_rounds_42 rfl ?_
      refine aw_aload_n (pc := 43) (q := 0) dX12_rounds_43 rfl ?_
      refine aw_iload_n (pc := 44) (q := 2) dX12_rounds_44 rfl ?_
      refine aw_iconst (pc := 45) dX12_rounds_45 ⟨by decide, by decide⟩ ?_
      obtain ⟨r1, w1, h1, h⟩ := aw_b2s h
      refine aw_callV (pc := 46) (as := [.inl x2, .inl 3]) (st := [.inl x2, .inr (.inr 64)]) (st' := [.inl r1, .inl x2, .inr (.inr 64)]) dX12_rounds_46 cv_RX12_399 (by decide) rfl rfl rfl rfl (Nat.le_of_ble_eq_true rfl) (w_m_told N d (by omega) _ _ _ _ _ h1) rfl ?_
      obtain ⟨hb, h⟩ := aw_cks h
      refine aw_iast (pc := 49) dX12_rounds_49 rfl hb.1 hb.2 ?_
      refine aw_iinc (pc := 50) (q := 2) (ls' := [(2, .inl (aw_w (x2 + 1))), (0, .inr (.inr 49)), (1, .inl x1)]) dX12_rounds_50 rfl (by decide) rfl ?_
      refine aw_goto (pc := 53) (tgt := 30) dX12_rounds_53 (by decide) ?_
      exact aw_sel [1, 2, 0] rfl (ih _ _ _ _ _ h)
def m_rounds (N : Nat) (x1 : Int) (w : aw_W) : Option (Int × aw_W) :=
  if (w 49 22) = 0 then
    m_rounds_24 N (aw_up w 49 0 0)
  else
    aw_b2 (m_isIn N x1 0 2 (aw_up w 49 0 0)) fun r1 w1 =>
      if r1 = 0 then
        m_rounds_24 N w1
      else
        m_rounds_30 N N x1 0 w1
theorem w_m_rounds_d {l : Launch} {K : aw_K} (N d : Nat) (hd : 6 ≤ d) : ∀ (x1 : Int) (w : aw_W) (y : Int) (v : aw_W), m_rounds N x1 w = some (y, v) → aw_Met l K MX12_rounds (d + 1) [.inr (.inr 49), .inl x1] w (some (.inl y), v) := by
  intro x1 w y v h
  unfold m_rounds at h
  refine aw_enter rfl (Nat.le_of_ble_eq_true rfl) ?_
  show aw_AW l K MX12_rounds (d + 1) 0 [(0, .inr (.inr 49)), (1, .inl x1)] [] w (some (.inl y), v)
  refine aw_aload_n (pc := 0) (q := 0) dX12_rounds_0 rfl ?_
  refine aw_iconst (pc := 1) dX12_rounds_1 ⟨by decide, by decide⟩ ?_
  refine aw_puti (pc := 2) dX12_rounds_2 fp_RX12_99 (by decide) rfl rfl ?_
  refine aw_aload_n (pc := 5) (q := 0) dX12_rounds_5 rfl ?_
  refine aw_getf (pc := 6) (v := .inl (w 49 22)) dX12_rounds_6 fl_RX12_270 (by decide) rfl rfl rfl ?_
  refine aw_if_eq (pc := 9) (tgt := 24) dX12_rounds_9 (by decide) (fun hc => ?_) (fun hc => ?_)
  · rw [if_pos hc] at h
    exact aw_sel [] rfl (w_m_rounds_24 N d hd  _ _ _ h)
  · rw [if_neg hc] at h
    refine aw_iload_n (pc := 12) (q := 1) dX12_rounds_12 rfl ?_
    refine aw_i2l (pc := 13) dX12_rounds_13 ?_
    refine aw_lconst (pc := 14) (x := 0) dX12_rounds_14 (by decide) ⟨by decide, by decide⟩ ?_
    refine aw_ldc2 (pc := 15) (x := 2) dX12_rounds_15 cl_RX12_313 ⟨by decide, by decide⟩ ?_
    obtain ⟨r1, w1, h1, h⟩ := aw_b2s h
    refine aw_callS (pc := 18) (as := [.inr (.inl x1), .inr (.inl 0), .inr (.inl 2)]) (st := []) (st' := [.inl r1]) dX12_rounds_18 cs_RX12_227 rfl rfl (Nat.le_of_ble_eq_true rfl) (w_m_isIn N d (by omega) _ _ _ _ _ _ h1) rfl ?_
    refine aw_if_ne (pc := 21) (tgt := 28) dX12_rounds_21 (by decide) (fun hc => ?_) (fun hc => ?_)
    · rw [if_neg hc] at h
      refine aw_iconst (pc := 28) dX12_rounds_28 ⟨by decide, by decide⟩ ?_
      refine aw_istore_n (pc := 29) (ls' := [(2, .inl 0), (0, .inr (.inr 49)), (1, .inl x1)]) dX12_rounds_29 (by decide) rfl ?_
      exact aw_sel [1, 2, 0] rfl (w_m_rounds_30 N d hd  N _ _ _ _ _ h)
    · rw [if_pos hc] at h
      exact aw_sel [] rfl (w_m_rounds_24 N d hd  _ _ _ h)
theorem w_m_rounds {l : Launch} {K : aw_K} (N d : Nat) (hd : 7 ≤ d) : ∀ (x1 : Int) (w : aw_W) (y : Int) (v : aw_W), m_rounds N x1 w = some (y, v) → aw_Met l K MX12_rounds (d) [.inr (.inr 49), .inl x1] w (some (.inl y), v) := by
  obtain ⟨e, rfl⟩ : ∃ e, d = e + 1 := ⟨d - 1, by omega⟩
  exact w_m_rounds_d N e (by omega)
theorem dX12_rule_0 : decode cX12_rule 0 = .ok (.aload_n 0, 1) := by decide +kernel
theorem dX12_rule_1 : decode cX12_rule 1 = .ok (.iconst 0, 1) := by decide +kernel
theorem dX12_rule_2 : decode cX12_rule 2 = .ok (.putfield 99, 3) := by decide +kernel
theorem dX12_rule_5 : decode cX12_rule 5 = .ok (.aload_n 0, 1) := by decide +kernel
theorem dX12_rule_6 : decode cX12_rule 6 = .ok (.iload_n 1, 1) := by decide +kernel
theorem dX12_rule_7 : decode cX12_rule 7 = .ok (.invokevirtual 282, 3) := by decide +kernel
theorem dX12_rule_10 : decode cX12_rule 10 = .ok (.ifCond .eq 24, 3) := by decide +kernel
theorem dX12_rule_13 : decode cX12_rule 13 = .ok (.iload_n 2, 1) := by decide +kernel
theorem dX12_rule_14 : decode cX12_rule 14 = .ok (.iconst (-1), 1) := by decide +kernel
theorem dX12_rule_15 : decode cX12_rule 15 = .ok (.if_icmp .eq 21, 3) := by decide +kernel
theorem dX12_rule_18 : decode cX12_rule 18 = .ok (.iload_n 2, 1) := by decide +kernel
theorem dX12_rule_19 : decode cX12_rule 19 = .ok (.i2l, 1) := by decide +kernel
theorem dX12_rule_20 : decode cX12_rule 20 = .ok (.lconst 0, 1) := by decide +kernel
theorem dX12_rule_21 : decode cX12_rule 21 = .ok (.aload_n 0, 1) := by decide +kernel
theorem dX12_rule_22 : decode cX12_rule 22 = .ok (.getfield 265, 3) := by decide +kernel
theorem dX12_rule_25 : decode cX12_rule 25 = .ok (.iconst 1, 1) := by decide +kernel
theorem dX12_rule_26 : decode cX12_rule 26 = .ok (.isub, 1) := by decide +kernel
theorem dX12_rule_27 : decode cX12_rule 27 = .ok (.i2l, 1) := by decide +kernel
theorem dX12_rule_28 : decode cX12_rule 28 = .ok (.invokestatic 227, 3) := by decide +kernel
theorem dX12_rule_31 : decode cX12_rule 31 = .ok (.ifCond .ne 5, 3) := by decide +kernel
theorem dX12_rule_34 : decode cX12_rule 34 = .ok (.iconst 0, 1) := by decide +kernel
theorem dX12_rule_35 : decode cX12_rule 35 = .ok (.ireturn, 1) := by decide +kernel
theorem dX12_rule_36 : decode cX12_rule 36 = .ok (.aload_n 0, 1) := by decide +kernel
theorem dX12_rule_37 : decode cX12_rule 37 = .ok (.getfield 49, 3) := by decide +kernel
theorem dX12_rule_40 : decode cX12_rule 40 = .ok (.iload_n 1, 1) := by decide +kernel
theorem dX12_rule_41 : decode cX12_rule 41 = .ok (.iload_n 2, 1) := by decide +kernel
theorem dX12_rule_42 : decode cX12_rule 42 = .ok (.iastore, 1) := by decide +kernel
theorem dX12_rule_43 : decode cX12_rule 43 = .ok (.iconst 1, 1) := by decide +kernel
theorem dX12_rule_44 : decode cX12_rule 44 = .ok (.ireturn, 1) := by decide +kernel
def m_rule_34 (N : Nat) (w : aw_W) : Option (Int × aw_W) :=
  some (0, w)
theorem w_m_rule_34 {l : Launch} {K : aw_K} (N d : Nat) (hd : 0 ≤ d) : ∀ (w : aw_W) (y : Int) (v : aw_W), m_rule_34 N w = some (y, v) → aw_AW l K MX12_rule (d + 1) 34 [] [] w (some (.inl y), v) := by
  intro w y v h
  unfold m_rule_34 at h
  refine aw_iconst (pc := 34) dX12_rule_34 ⟨by decide, by decide⟩ ?_
  cases h
  exact aw_zret (pc := 35) rfl (by decide) dX12_rule_35
def m_rule_36 (N : Nat) (x1 x2 : Int) (w : aw_W) : Option (Int × aw_W) :=
  if 0 ≤ x1 ∧ x1 < 6 then
    some (1, (aw_up w 58 x1.toNat x2))
  else none
theorem w_m_rule_36 {l : Launch} {K : aw_K} (N d : Nat) (hd : 0 ≤ d) : ∀ (x1 x2 : Int) (w : aw_W) (y : Int) (v : aw_W), m_rule_36 N x1 x2 w = some (y, v) → aw_AW l K MX12_rule (d + 1) 36 [(0, .inr (.inr 49)), (1, .inl x1), (2, .inl x2)] [] w (some (.inl y), v) := by
  intro x1 x2 w y v h
  unfold m_rule_36 at h
  refine aw_aload_n (pc := 36) (q := 0) dX12_rule_36 rfl ?_
  refine aw_getf (pc := 37) (v := .inr (.inr 58)) dX12_rule_37 fl_RX12_49 (by decide) rfl rfl rfl ?_
  refine aw_iload_n (pc := 40) (q := 1) dX12_rule_40 rfl ?_
  refine aw_iload_n (pc := 41) (q := 2) dX12_rule_41 rfl ?_
  obtain ⟨hb, h⟩ := aw_cks h
  refine aw_iast (pc := 42) dX12_rule_42 rfl hb.1 hb.2 ?_
  refine aw_iconst (pc := 43) dX12_rule_43 ⟨by decide, by decide⟩ ?_
  cases h
  exact aw_zret (pc := 44) rfl (by decide) dX12_rule_44
def m_rule (N : Nat) (x1 x2 : Int) (w : aw_W) : Option (Int × aw_W) :=
  aw_b2 (m_isStriver N x1 (aw_up w 49 0 0)) fun r1 w1 =>
    if r1 = 0 then
      m_rule_34 N w1
    else
      if x2 = (-1) then
        m_rule_36 N x1 x2 w1
      else
        aw_b2 (m_isIn N x2 0 (aw_w ((w1 49 7) - 1)) w1) fun r2 w2 =>
          if r2 = 0 then
            m_rule_34 N w2
          else
            m_rule_36 N x1 x2 w2
theorem w_m_rule_d {l : Launch} {K : aw_K} (N d : Nat) (hd : 0 ≤ d) : ∀ (x1 x2 : Int) (w : aw_W) (y : Int) (v : aw_W), m_rule N x1 x2 w = some (y, v) → aw_Met l K MX12_rule (d + 1) [.inr (.inr 49), .inl x1, .inl x2] w (some (.inl y), v) := by
  intro x1 x2 w y v h
  unfold m_rule at h
  refine aw_enter rfl (Nat.le_of_ble_eq_true rfl) ?_
  show aw_AW l K MX12_rule (d + 1) 0 [(0, .inr (.inr 49)), (1, .inl x1), (2, .inl x2)] [] w (some (.inl y), v)
  refine aw_aload_n (pc := 0) (q := 0) dX12_rule_0 rfl ?_
  refine aw_iconst (pc := 1) dX12_rule_1 ⟨by decide, by decide⟩ ?_
  refine aw_puti (pc := 2) dX12_rule_2 fp_RX12_99 (by decide) rfl rfl ?_
  refine aw_aload_n (pc := 5) (q := 0) dX12_rule_5 rfl ?_
  refine aw_iload_n (pc := 6) (q := 1) dX12_rule_6 rfl ?_
  obtain ⟨r1, w1, h1, h⟩ := aw_b2s h
  refine aw_callV (pc := 7) (as := [.inl x1]) (st := []) (st' := [.inl r1]) dX12_rule_7 cv_RX12_282 (by decide) rfl rfl rfl rfl (Nat.le_of_ble_eq_true rfl) (w_m_isStriver N d (by omega) _ _ _ _ h1) rfl ?_
  refine aw_if_eq (pc := 10) (tgt := 34) dX12_rule_10 (by decide) (fun hc => ?_) (fun hc => ?_)
  · rw [if_pos hc] at h
    exact aw_sel [] rfl (w_m_rule_34 N d hd  _ _ _ h)
  · rw [if_neg hc] at h
    refine aw_iload_n (pc := 13) (q := 2) dX12_rule_13 rfl ?_
    refine aw_iconst (pc := 14) dX12_rule_14 ⟨by decide, by decide⟩ ?_
    refine aw_icmp_eq (pc := 15) (tgt := 36) dX12_rule_15 (by decide) (fun hc => ?_) (fun hc => ?_)
    · rw [if_pos hc] at h
      exact aw_sel [0, 1, 2] rfl (w_m_rule_36 N d hd  _ _ _ _ _ h)
    · rw [if_neg hc] at h
      refine aw_iload_n (pc := 18) (q := 2) dX12_rule_18 rfl ?_
      refine aw_i2l (pc := 19) dX12_rule_19 ?_
      refine aw_lconst (pc := 20) (x := 0) dX12_rule_20 (by decide) ⟨by decide, by decide⟩ ?_
      refine aw_aload_n (pc := 21) (q := 0) dX12_rule_21 rfl ?_
      refine aw_getf (pc := 22) (v := .inl (w1 49 7)) dX12_rule_22 fl_RX12_265 (by decide) rfl rfl rfl ?_
      refine aw_iconst (pc := 25) dX12_rule_25 ⟨by decide, by decide⟩ ?_
      refine aw_isub (pc := 26) dX12_rule_26 ?_
      refine aw_i2l (pc := 27) dX12_rule_27 ?_
      obtain ⟨r2, w2, h2, h⟩ := aw_b2s h
      refine aw_callS (pc := 28) (as := [.inr (.inl x2), .inr (.inl 0), .inr (.inl (aw_w ((w1 49 7) - 1)))]) (st := []) (st' := [.inl r2]) dX12_rule_28 cs_RX12_227 rfl rfl (Nat.le_of_ble_eq_true rfl) (w_m_isIn N d (by omega) _ _ _ _ _ _ h2) rfl ?_
      refine aw_if_ne (pc := 31) (tgt := 36) dX12_rule_31 (by decide) (fun hc => ?_) (fun hc => ?_)
      · rw [if_neg hc] at h
        exact aw_sel [0, 1, 2] rfl (w_m_rule_36 N d hd  _ _ _ _ _ h)
      · rw [if_pos hc] at h
        exact aw_sel [] rfl (w_m_rule_34 N d hd  _ _ _ h)
theorem w_m_rule {l : Launch} {K : aw_K} (N d : Nat) (hd : 1 ≤ d) : ∀ (x1 x2 : Int) (w : aw_W) (y : Int) (v : aw_W), m_rule N x1 x2 w = some (y, v) → aw_Met l K MX12_rule (d) [.inr (.inr 49), .inl x1, .inl x2] w (some (.inl y), v) := by
  obtain ⟨e, rfl⟩ : ∃ e, d = e + 1 := ⟨d - 1, by omega⟩
  exact w_m_rule_d N e (by omega)
theorem dX12_seller_0 : decode cX12_seller 0 = .ok (.aload_n 0, 1) := by decide +kernel
theorem dX12_seller_1 : decode cX12_seller 1 = .ok (.iconst 0, 1) := by decide +kernel
theorem dX12_seller_2 : decode cX12_seller 2 = .ok (.putfield 99, 3) := by decide +kernel
theorem dX12_seller_5 : decode cX12_seller 5 = .ok (.aload_n 0, 1) := by decide +kernel
theorem dX12_seller_6 : decode cX12_seller 6 = .ok (.invokevirtual 360, 3) := by decide +kernel
theorem dX12_seller_9 : decode cX12_seller 9 = .ok (.ifCond .eq 13, 3) := by decide +kernel
theorem dX12_seller_12 : decode cX12_seller 12 = .ok (.iload_n 1, 1) := by decide +kernel
theorem dX12_seller_13 : decode cX12_seller 13 = .ok (.i2l, 1) := by decide +kernel
theorem dX12_seller_14 : decode cX12_seller 14 = .ok (.lconst 0, 1) := by decide +kernel
theorem dX12_seller_15 : decode cX12_seller 15 = .ok (.lconst 1, 1) := by decide +kernel
theorem dX12_seller_16 : decode cX12_seller 16 = .ok (.invokestatic 227, 3) := by decide +kernel
theorem dX12_seller_19 : decode cX12_seller 19 = .ok (.ifCond .ne 7, 3) := by decide +kernel
theorem dX12_seller_22 : decode cX12_seller 22 = .ok (.ldc_w 315, 3) := by decide +kernel
theorem dX12_seller_25 : decode cX12_seller 25 = .ok (.ireturn, 1) := by decide +kernel
theorem dX12_seller_26 : decode cX12_seller 26 = .ok (.iconst (-1), 1) := by decide +kernel
theorem dX12_seller_27 : decode cX12_seller 27 = .ok (.istore_n 2, 1) := by decide +kernel
theorem dX12_seller_28 : decode cX12_seller 28 = .ok (.iconst 0, 1) := by decide +kernel
theorem dX12_seller_29 : decode cX12_seller 29 = .ok (.istore_n 3, 1) := by decide +kernel
theorem dX12_seller_30 : decode cX12_seller 30 = .ok (.iload_n 3, 1) := by decide +kernel
theorem dX12_seller_31 : decode cX12_seller 31 = .ok (.aload_n 0, 1) := by decide +kernel
theorem dX12_seller_32 : decode cX12_seller 32 = .ok (.invokevirtual 363, 3) := by decide +kernel
theorem dX12_seller_35 : decode cX12_seller 35 = .ok (.if_icmp .ge 60, 3) := by decide +kernel
theorem dX12_seller_38 : decode cX12_seller 38 = .ok (.aload_n 0, 1) := by decide +kernel
theorem dX12_seller_39 : decode cX12_seller 39 = .ok (.iload_n 3, 1) := by decide +kernel
theorem dX12_seller_40 : decode cX12_seller 40 = .ok (.invokevirtual 342, 3) := by decide +kernel
theorem dX12_seller_43 : decode cX12_seller 43 = .ok (.ifCond .eq 46, 3) := by decide +kernel
theorem dX12_seller_46 : decode cX12_seller 46 = .ok (.aload_n 0, 1) := by decide +kernel
theorem dX12_seller_47 : decode cX12_seller 47 = .ok (.invokevirtual 366, 3) := by decide +kernel
theorem dX12_seller_50 : decode cX12_seller 50 = .ok (.ifCond .ne 6, 3) := by decide +kernel
theorem dX12_seller_53 : decode cX12_seller 53 = .ok (.goto 36, 3) := by decide +kernel
theorem dX12_seller_56 : decode cX12_seller 56 = .ok (.aload_n 0, 1) := by decide +kernel
theorem dX12_seller_57 : decode cX12_seller 57 = .ok (.invokevirtual 345, 3) := by decide +kernel
theorem dX12_seller_60 : decode cX12_seller 60 = .ok (.istore 4, 2) := by decide +kernel
theorem dX12_seller_62 : decode cX12_seller 62 = .ok (.iload_n 2, 1) := by decide +kernel
theorem dX12_seller_63 : decode cX12_seller 63 = .ok (.iconst (-1), 1) := by decide +kernel
theorem dX12_seller_64 : decode cX12_seller 64 = .ok (.if_icmp .eq 22, 3) := by decide +kernel
theorem dX12_seller_67 : decode cX12_seller 67 = .ok (.iload_n 1, 1) := by decide +kernel
theorem dX12_seller_68 : decode cX12_seller 68 = .ok (.ifCond .ne 12, 3) := by decide +kernel
theorem dX12_seller_71 : decode cX12_seller 71 = .ok (.iload 4, 2) := by decide +kernel
theorem dX12_seller_73 : decode cX12_seller 73 = .ok (.iload_n 2, 1) := by decide +kernel
theorem dX12_seller_74 : decode cX12_seller 74 = .ok (.if_icmp .ge 15, 3) := by decide +kernel
theorem dX12_seller_77 : decode cX12_seller 77 = .ok (.goto 9, 3) := by decide +kernel
theorem dX12_seller_80 : decode cX12_seller 80 = .ok (.iload 4, 2) := by decide +kernel
theorem dX12_seller_82 : decode cX12_seller 82 = .ok (.iload_n 2, 1) := by decide +kernel
theorem dX12_seller_83 : decode cX12_seller 83 = .ok (.if_icmp .le 6, 3) := by decide +kernel
theorem dX12_seller_86 : decode cX12_seller 86 = .ok (.iload 4, 2) := by decide +kernel
theorem dX12_seller_88 : decode cX12_seller 88 = .ok (.istore_n 2, 1) := by decide +kernel
theorem dX12_seller_89 : decode cX12_seller 89 = .ok (.iinc 3 1, 3) := by decide +kernel
theorem dX12_seller_92 : decode cX12_seller 92 = .ok (.goto (-62), 3) := by decide +kernel
theorem dX12_seller_95 : decode cX12_seller 95 = .ok (.iload_n 2, 1) := by decide +kernel
theorem dX12_seller_96 : decode cX12_seller 96 = .ok (.ireturn, 1) := by decide +kernel
def m_seller_22 (N : Nat) (w : aw_W) : Option (Int × aw_W) :=
  some ((-1000000), w)
theorem w_m_seller_22 {l : Launch} {K : aw_K} (N d : Nat) (hd : 5 ≤ d) : ∀ (w : aw_W) (y : Int) (v : aw_W), m_seller_22 N w = some (y, v) → aw_AW l K MX12_seller (d + 1) 22 [] [] w (some (.inl y), v) := by
  intro w y v h
  unfold m_seller_22 at h
  refine aw_ldcw (pc := 22) (x := (-1000000)) dX12_seller_22 cn_RX12_315 ⟨by decide, by decide⟩ ?_
  cases h
  exact aw_iret (pc := 25) rfl dX12_seller_25
def m_seller_95 (N : Nat) (x2 : Int) (w : aw_W) : Option (Int × aw_W) :=
  some (x2, w)
theorem w_m_seller_95 {l : Launch} {K : aw_K} (N d : Nat) (hd : 5 ≤ d) : ∀ (x2 : Int) (w : aw_W) (y : Int) (v : aw_W), m_seller_95 N x2 w = some (y, v) → aw_AW l K MX12_seller (d + 1) 95 [(2, .inl x2)] [] w (some (.inl y), v) := by
  intro x2 w y v h
  unfold m_seller_95 at h
  refine aw_iload_n (pc := 95) (q := 0) dX12_seller_95 rfl ?_
  cases h
  exact aw_iret (pc := 96) rfl dX12_seller_96
def m_seller_89 (N : Nat) (k30 : Int → Int → Int → aw_W → Option (Int × aw_W)) (x1 x2 x3 : Int) (w : aw_W) : Option (Int × aw_W) :=
  k30 x1 x2 (aw_w (x3 + 1)) w
theorem w_m_seller_89 {l : Launch} {K : aw_K} (N d : Nat) (hd : 5 ≤ d) (k30 : Int → Int → Int → aw_W → Option (Int × aw_W)) (hk30 : ∀ (x1 x2 x3 : Int) (w : aw_W) (y : Int) (v : aw_W), k30 x1 x2 x3 w = some (y, v) → aw_AW l K MX12_seller (d + 1) 30 [(0, .inr (.inr 49)), (1, .inl x1), (2, .inl x2), (3, .inl x3)] [] w (some (.inl y), v)) : ∀ (x1 x2 x3 : Int) (w : aw_W) (y : Int) (v : aw_W), m_seller_89 N k30 x1 x2 x3 w = some (y, v) → aw_AW l K MX12_seller (d + 1) 89 [(0, .inr (.inr 49)), (1, .inl x1), (2, .inl x2), (3, .inl x3)] [] w (some (.inl y), v) := by
  intro x1 x2 x3 w y v h
  unfold m_seller_89 at h
  refine aw_iinc (pc := 89) (q := 3) (ls' := [(3, .inl (aw_w (x3 + 1))), (0, .inr (.inr 49)), (1, .inl x1), (2, .inl x2)]) dX12_seller_89 rfl (by decide) rfl ?_
  refine aw_goto (pc := 92) (tgt := 30) dX12_seller_92 (by decide) ?_
  exact aw_sel [1, 2, 3, 0] rfl (hk30 _ _ _ _ _ _ h)
def m_seller_86 (N : Nat) (k30 : Int → Int → Int → aw_W → Option (Int × aw_W)) (x1 x3 x4 : Int) (w : aw_W) : Option (Int × aw_W) :=
  m_seller_89 N k30 x1 x4 x3 w
theorem w_m_seller_86 {l : Launch} {K : aw_K} (N d : Nat) (hd : 5 ≤ d) (k30 : Int → Int → Int → aw_W → Option (Int × aw_W)) (hk30 : ∀ (x1 x2 x3 : Int) (w : aw_W) (y : Int) (v : aw_W), k30 x1 x2 x3 w = some (y, v) → aw_AW l K MX12_seller (d + 1) 30 [(0, .inr (.inr 49)), (1, .inl x1), (2, .inl x2), (3, .inl x3)] [] w (some (.inl y), v)) : ∀ (x1 x3 x4 : Int) (w : aw_W) (y : Int) (v : aw_W), m_seller_86 N k30 x1 x3 x4 w = some (y, v) → aw_AW l K MX12_seller (d + 1) 86 [(0, .inr (.inr 49)), (1, .inl x1), (3, .inl x3), (4, .inl x4)] [] w (some (.inl y), v) := by
  intro x1 x3 x4 w y v h
  unfold m_seller_86 at h
  refine aw_iload (pc := 86) (q := 3) dX12_seller_86 rfl ?_
  refine aw_istore_n (pc := 88) (ls' := [(2, .inl x4), (0, .inr (.inr 49)), (1, .inl x1), (3, .inl x3), (4, .inl x4)]) dX12_seller_88 (by decide) rfl ?_
  exact aw_sel [1, 2, 0, 3] rfl (w_m_seller_89 N d hd  _ hk30 _ _ _ _ _ _ h)
def m_seller_30 (N : Nat) : Nat → Int → Int → Int → aw_W → Option (Int × aw_W)
  | 0, _, _, _, _ => none
  | n + 1, x1, x2, x3, w =>
    aw_b2 (m_rowMany N w) fun r1 w1 =>
      if r1 ≤ x3 then
        m_seller_95 N x2 w1
      else
        aw_b2 (m_lay N x3 w1) fun r2 w2 =>
          if r2 = 0 then
            m_seller_89 N (m_seller_30 N n) x1 x2 x3 w2
          else
            aw_b2 (m_isRest N w2) fun r3 w3 =>
              if r3 = 0 then
                m_seller_89 N (m_seller_30 N n) x1 x2 x3 w3
              else
                aw_b2 (m_allPaid N w3) fun r4 w4 =>
                  if x2 = (-1) then
                    m_seller_86 N (m_seller_30 N n) x1 x3 r4 w4
                  else
                    if x1 = 0 then
                      if x2 ≤ r4 then
                        m_seller_89 N (m_seller_30 N n) x1 x2 x3 w4
                      else
                        m_seller_86 N (m_seller_30 N n) x1 x3 r4 w4
                    else
                      if r4 ≤ x2 then
                        m_seller_89 N (m_seller_30 N n) x1 x2 x3 w4
                      else
                        m_seller_86 N (m_seller_30 N n) x1 x3 r4 w4
theorem w_m_seller_30 {l : Launch} {K : aw_K} (N d : Nat) (hd : 5 ≤ d) : ∀ (n : Nat) (x1 x2 x3 : Int) (w : aw_W) (y : Int) (v : aw_W), m_seller_30 N n x1 x2 x3 w = some (y, v) → aw_AW l K MX12_seller (d + 1) 30 [(0, .inr (.inr 49)), (1, .inl x1), (2, .inl x2), (3, .inl x3)] [] w (some (.inl y), v) := by
  intro n
  induction n with
  | zero => intro x1 x2 x3 w y v h; rw [m_seller_30] at h; cases h
  | succ n ih =>
    intro x1 x2 x3 w y v h
    rw [m_seller_30] at h
    refine aw_iload_n (pc := 30) (q := 3) dX12_seller_30 rfl ?_
    refine aw_aload_n (pc := 31) (q := 0) dX12_seller_31 rfl ?_
    obtain ⟨r1, w1, h1, h⟩ := aw_b2s h
    refine aw_callV (pc := 32) (as := []) (st := [.inl x3]) (st' := [.inl r1, .inl x3]) dX12_seller_32 cv_RX12_363 (by decide) rfl rfl rfl rfl (Nat.le_of_ble_eq_true rfl) (w_m_rowMany N d (by omega) _ _ _ h1) rfl ?_
    refine aw_icmp_ge (pc := 35) (tgt := 95) dX12_seller_35 (by decide) (fun hc => ?_) (fun hc => ?_)
    · rw [if_pos hc] at h
      exact aw_sel [2] rfl (w_m_seller_95 N d hd  _ _ _ _ h)
    · rw [if_neg hc] at h
      refine aw_aload_n (pc := 38) (q := 0) dX12_seller_38 rfl ?_
      refine aw_iload_n (pc := 39) (q := 3) dX12_seller_39 rfl ?_
      obtain ⟨r2, w2, h2, h⟩ := aw_b2s h
      refine aw_callV (pc := 40) (as := [.inl x3]) (st := []) (st' := [.inl r2]) dX12_seller_40 cv_RX12_342 (by decide) rfl rfl rfl rfl (Nat.le_of_ble_eq_true rfl) (w_m_lay N d (by omega) _ _ _ _ h2) rfl ?_
      refine aw_if_eq (pc := 43) (tgt := 89) dX12_seller_43 (by decide) (fun hc => ?_) (fun hc => ?_)
      · rw [if_pos hc] at h
        exact aw_sel [0, 1, 2, 3] rfl (w_m_seller_89 N d hd  _ ih _ _ _ _ _ _ h)
      · rw [if_neg hc] at h
        refine aw_aload_n (pc := 46) (q := 0) dX12_seller_46 rfl ?_
        obtain ⟨r3, w3, h3, h⟩ := aw_b2s h
        refine aw_callV (pc := 47) (as := []) (st := []) (st' := [.inl r3]) dX12_seller_47 cv_RX12_366 (by decide) rfl rfl rfl rfl (Nat.le_of_ble_eq_true rfl) (w_m_isRest N d (by omega) _ _ _ h3) rfl ?_
        refine aw_if_ne (pc := 50) (tgt := 56) dX12_seller_50 (by decide) (fun hc => ?_) (fun hc => ?_)
        · rw [if_neg hc] at h
          refine aw_aload_n (pc := 56) (q := 0) dX12_seller_56 rfl ?_
          obtain ⟨r4, w4, h4, h⟩ := aw_b2s h
          refine aw_callV (pc := 57) (as := []) (st := []) (st' := [.inl r4]) dX12_seller_57 cv_RX12_345 (by decide) rfl rfl rfl rfl (Nat.le_of_ble_eq_true rfl) (w_m_allPaid N d (by omega) _ _ _ h4) rfl ?_
          refine aw_istore (pc := 60) (ls' := [(4, .inl r4), (0, .inr (.inr 49)), (1, .inl x1), (2, .inl x2), (3, .inl x3)]) dX12_seller_60 (by decide) rfl ?_
          refine aw_iload_n (pc := 62) (q := 3) dX12_seller_62 rfl ?_
          refine aw_iconst (pc := 63) dX12_seller_63 ⟨by decide, by decide⟩ ?_
          refine aw_icmp_eq (pc := 64) (tgt := 86) dX12_seller_64 (by decide) (fun hc => ?_) (fun hc => ?_)
          · rw [if_pos hc] at h
            exact aw_sel [1, 2, 4, 0] rfl (w_m_seller_86 N d hd  _ ih _ _ _ _ _ _ h)
          · rw [if_neg hc] at h
            refine aw_iload_n (pc := 67) (q := 2) dX12_seller_67 rfl ?_
            refine aw_if_ne (pc := 68) (tgt := 80) dX12_seller_68 (by decide) (fun hc => ?_) (fun hc => ?_)
            · rw [if_neg hc] at h
              refine aw_iload (pc := 80) (q := 0) dX12_seller_80 rfl ?_
              refine aw_iload_n (pc := 82) (q := 3) dX12_seller_82 rfl ?_
              refine aw_icmp_le (pc := 83) (tgt := 89) dX12_seller_83 (by decide) (fun hc => ?_) (fun hc => ?_)
              · rw [if_pos hc] at h
                exact aw_sel [1, 2, 3, 4] rfl (w_m_seller_89 N d hd  _ ih _ _ _ _ _ _ h)
              · rw [if_neg hc] at h
                exact aw_sel [1, 2, 4, 0] rfl (w_m_seller_86 N d hd  _ ih _ _ _ _ _ _ h)
            · rw [if_pos hc] at h
              refine aw_iload (pc := 71) (q := 0) dX12_seller_71 rfl ?_
              refine aw_iload_n (pc := 73) (q := 3) dX12_seller_73 rfl ?_
              refine aw_icmp_ge (pc := 74) (tgt := 89) dX12_seller_74 (by decide) (fun hc => ?_) (fun hc => ?_)
              · rw [if_pos hc] at h
                exact aw_sel [1, 2, 3, 4] rfl (w_m_seller_89 N d hd  _ ih _ _ _ _ _ _ h)
              · rw [if_neg hc] at h
                refine aw_goto (pc := 77) (tgt := 86) dX12_seller_77 (by decide) ?_
                exact aw_sel [1, 2, 4, 0] rfl (w_m_seller_86 N d hd  _ ih _ _ _ _ _ _ h)
        · rw [if_pos hc] at h
          refine aw_goto (pc := 53) (tgt := 89) dX12_seller_53 (by decide) ?_
          exact aw_sel [0, 1, 2, 3] rfl (w_m_seller_89 N d hd  _ ih _ _ _ _ _ _ h)
def m_seller (N : Nat) (x1 : Int) (w : aw_W) : Option (Int × aw_W) :=
  aw_b2 (m_areFew N (aw_up w 49 0 0)) fun r1 w1 =>
    if r1 = 0 then
      m_seller_22 N w1
    else
      aw_b2 (m_isIn N x1 0 1 w1) fun r2 w2 =>
        if r2 = 0 then
          m_seller_22 N w2
        else
          m_seller_30 N N x1 (-1) 0 w2
theorem w_m_seller_d {l : Launch} {K : aw_K} (N d : Nat) (hd : 5 ≤ d) : ∀ (x1 : Int) (w : aw_W) (y : Int) (v : aw_W), m_seller N x1 w = some (y, v) → aw_Met l K MX12_seller (d + 1) [.inr (.inr 49), .inl x1] w (some (.inl y), v) := by
  intro x1 w y v h
  unfold m_seller at h
  refine aw_enter rfl (Nat.le_of_ble_eq_true rfl) ?_
  show aw_AW l K MX12_seller (d + 1) 0 [(0, .inr (.inr 49)), (1, .inl x1)] [] w (some (.inl y), v)
  refine aw_aload_n (pc := 0) (q := 0) dX12_seller_0 rfl ?_
  refine aw_iconst (pc := 1) dX12_seller_1 ⟨by decide, by decide⟩ ?_
  refine aw_puti (pc := 2) dX12_seller_2 fp_RX12_99 (by decide) rfl rfl ?_
  refine aw_aload_n (pc := 5) (q := 0) dX12_seller_5 rfl ?_
  obtain ⟨r1, w1, h1, h⟩ := aw_b2s h
  refine aw_callV (pc := 6) (as := []) (st := []) (st' := [.inl r1]) dX12_seller_6 cv_RX12_360 (by decide) rfl rfl rfl rfl (Nat.le_of_ble_eq_true rfl) (w_m_areFew N d (by omega) _ _ _ h1) rfl ?_
  refine aw_if_eq (pc := 9) (tgt := 22) dX12_seller_9 (by decide) (fun hc => ?_) (fun hc => ?_)
  · rw [if_pos hc] at h
    exact aw_sel [] rfl (w_m_seller_22 N d hd  _ _ _ h)
  · rw [if_neg hc] at h
    refine aw_iload_n (pc := 12) (q := 1) dX12_seller_12 rfl ?_
    refine aw_i2l (pc := 13) dX12_seller_13 ?_
    refine aw_lconst (pc := 14) (x := 0) dX12_seller_14 (by decide) ⟨by decide, by decide⟩ ?_
    refine aw_lconst (pc := 15) (x := 1) dX12_seller_15 (by decide) ⟨by decide, by decide⟩ ?_
    obtain ⟨r2, w2, h2, h⟩ := aw_b2s h
    refine aw_callS (pc := 16) (as := [.inr (.inl x1), .inr (.inl 0), .inr (.inl 1)]) (st := []) (st' := [.inl r2]) dX12_seller_16 cs_RX12_227 rfl rfl (Nat.le_of_ble_eq_true rfl) (w_m_isIn N d (by omega) _ _ _ _ _ _ h2) rfl ?_
    refine aw_if_ne (pc := 19) (tgt := 26) dX12_seller_19 (by decide) (fun hc => ?_) (fun hc => ?_)
    · rw [if_neg hc] at h
      refine aw_iconst (pc := 26) dX12_seller_26 ⟨by decide, by decide⟩ ?_
      refine aw_istore_n (pc := 27) (ls' := [(2, .inl (-1)), (0, .inr (.inr 49)), (1, .inl x1)]) dX12_seller_27 (by decide) rfl ?_
      refine aw_iconst (pc := 28) dX12_seller_28 ⟨by decide, by decide⟩ ?_
      refine aw_istore_n (pc := 29) (ls' := [(3, .inl 0), (2, .inl (-1)), (0, .inr (.inr 49)), (1, .inl x1)]) dX12_seller_29 (by decide) rfl ?_
      exact aw_sel [2, 3, 1, 0] rfl (w_m_seller_30 N d hd  N _ _ _ _ _ _ h)
    · rw [if_pos hc] at h
      exact aw_sel [] rfl (w_m_seller_22 N d hd  _ _ _ h)
theorem w_m_seller {l : Launch} {K : aw_K} (N d : Nat) (hd : 6 ≤ d) : ∀ (x1 : Int) (w : aw_W) (y : Int) (v : aw_W), m_seller N x1 w = some (y, v) → aw_Met l K MX12_seller (d) [.inr (.inr 49), .inl x1] w (some (.inl y), v) := by
  obtain ⟨e, rfl⟩ : ∃ e, d = e + 1 := ⟨d - 1, by omega⟩
  exact w_m_seller_d N e (by omega)
theorem dX12_areTurns_0 : decode cX12_areTurns 0 = .ok (.aload_n 0, 1) := by decide +kernel
theorem dX12_areTurns_1 : decode cX12_areTurns 1 = .ok (.getfield 270, 3) := by decide +kernel
theorem dX12_areTurns_4 : decode cX12_areTurns 4 = .ok (.ifCond .le 19, 3) := by decide +kernel
theorem dX12_areTurns_7 : decode cX12_areTurns 7 = .ok (.iload_n 1, 1) := by decide +kernel
theorem dX12_areTurns_8 : decode cX12_areTurns 8 = .ok (.i2l, 1) := by decide +kernel
theorem dX12_areTurns_9 : decode cX12_areTurns 9 = .ok (.lconst 1, 1) := by decide +kernel
theorem dX12_areTurns_10 : decode cX12_areTurns 10 = .ok (.ldc2_w 391, 3) := by decide +kernel
theorem dX12_areTurns_13 : decode cX12_areTurns 13 = .ok (.invokestatic 227, 3) := by decide +kernel
theorem dX12_areTurns_16 : decode cX12_areTurns 16 = .ok (.ifCond .eq 7, 3) := by decide +kernel
theorem dX12_areTurns_19 : decode cX12_areTurns 19 = .ok (.iconst 1, 1) := by decide +kernel
theorem dX12_areTurns_20 : decode cX12_areTurns 20 = .ok (.goto 4, 3) := by decide +kernel
theorem dX12_areTurns_23 : decode cX12_areTurns 23 = .ok (.iconst 0, 1) := by decide +kernel
theorem dX12_areTurns_24 : decode cX12_areTurns 24 = .ok (.ireturn, 1) := by decide +kernel
def m_areTurns_24 (N : Nat) (s0 : Int) (w : aw_W) : Option (Int × aw_W) :=
  if s0 = 0 ∨ s0 = 1 then
    some (s0, w)
  else none
theorem w_m_areTurns_24 {l : Launch} {K : aw_K} (N d : Nat) (hd : 0 ≤ d) : ∀ (s0 : Int) (w : aw_W) (y : Int) (v : aw_W), m_areTurns_24 N s0 w = some (y, v) → aw_AW l K MX12_areTurns (d + 1) 24 [] [.inl s0] w (some (.inl y), v) := by
  intro s0 w y v h
  unfold m_areTurns_24 at h
  obtain ⟨hz, h⟩ := aw_cks h
  cases h
  exact aw_zret (pc := 24) rfl hz dX12_areTurns_24
def m_areTurns_23 (N : Nat) (w : aw_W) : Option (Int × aw_W) :=
  m_areTurns_24 N 0 w
theorem w_m_areTurns_23 {l : Launch} {K : aw_K} (N d : Nat) (hd : 0 ≤ d) : ∀ (w : aw_W) (y : Int) (v : aw_W), m_areTurns_23 N w = some (y, v) → aw_AW l K MX12_areTurns (d + 1) 23 [] [] w (some (.inl y), v) := by
  intro w y v h
  unfold m_areTurns_23 at h
  refine aw_iconst (pc := 23) dX12_areTurns_23 ⟨by decide, by decide⟩ ?_
  exact aw_sel [] rfl (w_m_areTurns_24 N d hd  _ _ _ _ h)
def m_areTurns (N : Nat) (x1 : Int) (w : aw_W) : Option (Int × aw_W) :=
  if (w 49 22) ≤ 0 then
    m_areTurns_23 N w
  else
    aw_b2 (m_isIn N x1 1 60 w) fun r1 w1 =>
      if r1 = 0 then
        m_areTurns_23 N w1
      else
        m_areTurns_24 N 1 w1
theorem w_m_areTurns_d {l : Launch} {K : aw_K} (N d : Nat) (hd : 0 ≤ d) : ∀ (x1 : Int) (w : aw_W) (y : Int) (v : aw_W), m_areTurns N x1 w = some (y, v) → aw_Met l K MX12_areTurns (d + 1) [.inr (.inr 49), .inl x1] w (some (.inl y), v) := by
  intro x1 w y v h
  unfold m_areTurns at h
  refine aw_enter rfl (Nat.le_of_ble_eq_true rfl) ?_
  show aw_AW l K MX12_areTurns (d + 1) 0 [(0, .inr (.inr 49)), (1, .inl x1)] [] w (some (.inl y), v)
  refine aw_aload_n (pc := 0) (q := 0) dX12_areTurns_0 rfl ?_
  refine aw_getf (pc := 1) (v := .inl (w 49 22)) dX12_areTurns_1 fl_RX12_270 (by decide) rfl rfl rfl ?_
  refine aw_if_le (pc := 4) (tgt := 23) dX12_areTurns_4 (by decide) (fun hc => ?_) (fun hc => ?_)
  · rw [if_pos hc] at h
    exact aw_sel [] rfl (w_m_areTurns_23 N d hd  _ _ _ h)
  · rw [if_neg hc] at h
    refine aw_iload_n (pc := 7) (q := 1) dX12_areTurns_7 rfl ?_
    refine aw_i2l (pc := 8) dX12_areTurns_8 ?_
    refine aw_lconst (pc := 9) (x := 1) dX12_areTurns_9 (by decide) ⟨by decide, by decide⟩ ?_
    refine aw_ldc2 (pc := 10) (x := 60) dX12_areTurns_10 cl_RX12_391 ⟨by decide, by decide⟩ ?_
    obtain ⟨r1, w1, h1, h⟩ := aw_b2s h
    refine aw_callS (pc := 13) (as := [.inr (.inl x1), .inr (.inl 1), .inr (.inl 60)]) (st := []) (st' := [.inl r1]) dX12_areTurns_13 cs_RX12_227 rfl rfl (Nat.le_of_ble_eq_true rfl) (w_m_isIn N d (by omega) _ _ _ _ _ _ h1) rfl ?_
    refine aw_if_eq (pc := 16) (tgt := 23) dX12_areTurns_16 (by decide) (fun hc => ?_) (fun hc => ?_)
    · rw [if_pos hc] at h
      exact aw_sel [] rfl (w_m_areTurns_23 N d hd  _ _ _ h)
    · rw [if_neg hc] at h
      refine aw_iconst (pc := 19) dX12_areTurns_19 ⟨by decide, by decide⟩ ?_
      refine aw_goto (pc := 20) (tgt := 24) dX12_areTurns_20 (by decide) ?_
      exact aw_sel [] rfl (w_m_areTurns_24 N d hd  _ _ _ _ h)
theorem w_m_areTurns {l : Launch} {K : aw_K} (N d : Nat) (hd : 1 ≤ d) : ∀ (x1 : Int) (w : aw_W) (y : Int) (v : aw_W), m_areTurns N x1 w = some (y, v) → aw_Met l K MX12_areTurns (d) [.inr (.inr 49), .inl x1] w (some (.inl y), v) := by
  obtain ⟨e, rfl⟩ : ∃ e, d = e + 1 := ⟨d - 1, by omega⟩
  exact w_m_areTurns_d N e (by omega)
theorem dX12_hasAt_0 : decode cX12_hasAt 0 = .ok (.aload_n 0, 1) := by decide +kernel
theorem dX12_hasAt_1 : decode cX12_hasAt 1 = .ok (.getfield 75, 3) := by decide +kernel
theorem dX12_hasAt_4 : decode cX12_hasAt 4 = .ok (.bipush 6, 2) := by decide +kernel
theorem dX12_hasAt_6 : decode cX12_hasAt 6 = .ok (.bipush 64, 2) := by decide +kernel
theorem dX12_hasAt_8 : decode cX12_hasAt 8 = .ok (.iload_n 1, 1) := by decide +kernel
theorem dX12_hasAt_9 : decode cX12_hasAt 9 = .ok (.imul, 1) := by decide +kernel
theorem dX12_hasAt_10 : decode cX12_hasAt 10 = .ok (.iload_n 2, 1) := by decide +kernel
theorem dX12_hasAt_11 : decode cX12_hasAt 11 = .ok (.iadd, 1) := by decide +kernel
theorem dX12_hasAt_12 : decode cX12_hasAt 12 = .ok (.imul, 1) := by decide +kernel
theorem dX12_hasAt_13 : decode cX12_hasAt 13 = .ok (.iload_n 3, 1) := by decide +kernel
theorem dX12_hasAt_14 : decode cX12_hasAt 14 = .ok (.iadd, 1) := by decide +kernel
theorem dX12_hasAt_15 : decode cX12_hasAt 15 = .ok (.iaload, 1) := by decide +kernel
theorem dX12_hasAt_16 : decode cX12_hasAt 16 = .ok (.ireturn, 1) := by decide +kernel
def m_hasAt (N : Nat) (x1 x2 x3 : Int) (w : aw_W) : Option (Int × aw_W) :=
  if 0 ≤ (aw_w ((aw_w (6 * (aw_w ((aw_w (64 * x1)) + x2)))) + x3)) ∧ (aw_w ((aw_w (6 * (aw_w ((aw_w (64 * x1)) + x2)))) + x3)) < 23424 then
    some (w 65 ((aw_w ((aw_w (6 * (aw_w ((aw_w (64 * x1)) + x2)))) + x3)).toNat), w)
  else none
theorem w_m_hasAt {l : Launch} {K : aw_K} (N d : Nat) (hd : 0 ≤ d) : ∀ (x1 x2 x3 : Int) (w : aw_W) (y : Int) (v : aw_W), m_hasAt N x1 x2 x3 w = some (y, v) → aw_Met l K MX12_hasAt (d) [.inr (.inr 49), .inl x1, .inl x2, .inl x3] w (some (.inl y), v) := by
  intro x1 x2 x3 w y v h
  unfold m_hasAt at h
  refine aw_enter rfl (Nat.le_of_ble_eq_true rfl) ?_
  show aw_AW l K MX12_hasAt (d) 0 [(0, .inr (.inr 49)), (1, .inl x1), (2, .inl x2), (3, .inl x3)] [] w (some (.inl y), v)
  refine aw_aload_n (pc := 0) (q := 0) dX12_hasAt_0 rfl ?_
  refine aw_getf (pc := 1) (v := .inr (.inr 65)) dX12_hasAt_1 fl_RX12_75 (by decide) rfl rfl rfl ?_
  refine aw_bipush (pc := 4) dX12_hasAt_4 (by decide) ⟨by decide, by decide⟩ ?_
  refine aw_bipush (pc := 6) dX12_hasAt_6 (by decide) ⟨by decide, by decide⟩ ?_
  refine aw_iload_n (pc := 8) (q := 1) dX12_hasAt_8 rfl ?_
  refine aw_imul (pc := 9) dX12_hasAt_9 ?_
  refine aw_iload_n (pc := 10) (q := 2) dX12_hasAt_10 rfl ?_
  refine aw_iadd (pc := 11) dX12_hasAt_11 ?_
  refine aw_imul (pc := 12) dX12_hasAt_12 ?_
  refine aw_iload_n (pc := 13) (q := 3) dX12_hasAt_13 rfl ?_
  refine aw_iadd (pc := 14) dX12_hasAt_14 ?_
  obtain ⟨hb, h⟩ := aw_cks h
  refine aw_ialdv (pc := 15) (v := w 65 ((aw_w ((aw_w (6 * (aw_w ((aw_w (64 * x1)) + x2)))) + x3)).toNat)) dX12_hasAt_15 rfl hb.1 hb.2 rfl ?_
  cases h
  exact aw_iret (pc := 16) rfl dX12_hasAt_16
