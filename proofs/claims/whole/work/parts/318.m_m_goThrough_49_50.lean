def m_goThrough_49_50_87 (N : Nat) (w : aw_W) : Option (aw_W) :=
  some w
theorem w_m_goThrough_49_50_87 {l : Launch} {K : aw_K} (N d : Nat) (hd : 126 ≤ d) : ∀ (w v : aw_W), m_goThrough_49_50_87 N w = some v → aw_AW l K MX12_goThrough (d + 1) 87 [] [] w (none, v) := by
  intro w v h
  unfold m_goThrough_49_50_87 at h
  cases h
  exact aw_vret (pc := 87) rfl dX12_goThrough_87
def m_goThrough_49_50_66 (N : Nat) (w : aw_W) : Option (aw_W) :=
  if (w 49 11) = (-1) then
    aw_b2 (m_look N w) fun r1 w1 =>
      if r1 = (-1) then
        m_goThrough_49_50_87 N w1
      else
        aw_b2 (m_fails N w1) fun r2 w2 =>
          m_goThrough_49_50_87 N w2
  else
    m_goThrough_49_50_87 N w
theorem w_m_goThrough_49_50_66 {l : Launch} {K : aw_K} (N d : Nat) (hd : 126 ≤ d) : ∀ (w v : aw_W), m_goThrough_49_50_66 N w = some v → aw_AW l K MX12_goThrough (d + 1) 66 [(0, .inr (.inr 49))] [] w (none, v) := by
  intro w v h
  unfold m_goThrough_49_50_66 at h
  refine aw_aload_n (pc := 66) (q := 0) dX12_goThrough_66 rfl ?_
  refine aw_getf (pc := 67) (v := .inl (w 49 11)) dX12_goThrough_67 fl_RX12_131 (by decide) rfl rfl rfl ?_
  refine aw_iconst (pc := 70) dX12_goThrough_70 ⟨by decide, by decide⟩ ?_
  refine aw_icmp_ne (pc := 71) (tgt := 87) dX12_goThrough_71 (by decide) (fun hc => ?_) (fun hc => ?_)
  · rw [if_neg hc] at h
    exact aw_sel [] rfl (w_m_goThrough_49_50_87 N d hd  _ _ h)
  · rw [if_pos hc] at h
    refine aw_aload_n (pc := 74) (q := 0) dX12_goThrough_74 rfl ?_
    obtain ⟨r1, w1, h1, h⟩ := aw_b2s h
    refine aw_callV (pc := 75) (as := []) (st := []) (st' := [.inl r1]) dX12_goThrough_75 cv_RX12_141 (by decide) rfl rfl rfl rfl (Nat.le_of_ble_eq_true rfl) (w_m_look N d (by omega) _ _ _ h1) rfl ?_
    refine aw_iconst (pc := 78) dX12_goThrough_78 ⟨by decide, by decide⟩ ?_
    refine aw_icmp_eq (pc := 79) (tgt := 87) dX12_goThrough_79 (by decide) (fun hc => ?_) (fun hc => ?_)
    · rw [if_pos hc] at h
      exact aw_sel [] rfl (w_m_goThrough_49_50_87 N d hd  _ _ h)
    · rw [if_neg hc] at h
      refine aw_aload_n (pc := 82) (q := 0) dX12_goThrough_82 rfl ?_
      obtain ⟨r2, w2, h2, h⟩ := aw_b2s h
      refine aw_callV (pc := 83) (as := []) (st := []) (st' := [.inl r2]) dX12_goThrough_83 cv_RX12_137 (by decide) rfl rfl rfl rfl (Nat.le_of_ble_eq_true rfl) (w_m_fails N d (by omega) _ _ _ h2) rfl ?_
      refine aw_pop (pc := 86) dX12_goThrough_86 rfl ?_
      exact aw_sel [] rfl (w_m_goThrough_49_50_87 N d hd  _ _ h)
def m_goThrough_49_50_32 (N : Nat) : Nat → aw_W → Option (aw_W)
  | 0, _ => none
  | n + 1, w =>
    if (w 49 11) = (-1) then
      aw_b2 (m_look N w) fun r1 w1 =>
        if r1 = 59 then
          aw_b1 (m_clause N (aw_up w1 49 10 (aw_w ((w1 49 10) + 1)))) fun w2 =>
            m_goThrough_49_50_32 N n w2
        else
          m_goThrough_49_50_66 N w1
    else
      m_goThrough_49_50_66 N w
theorem w_m_goThrough_49_50_32 {l : Launch} {K : aw_K} (N d : Nat) (hd : 126 ≤ d) : ∀ (n : Nat) (w v : aw_W), m_goThrough_49_50_32 N n w = some v → aw_AW l K MX12_goThrough (d + 1) 32 [(0, .inr (.inr 49))] [] w (none, v) := by
  intro n
  induction n with
  | zero => intro w v h; rw [m_goThrough_49_50_32] at h; cases h
  | succ n ih =>
    intro w v h
    rw [m_goThrough_49_50_32] at h
    refine aw_aload_n (pc := 32) (q := 0) dX12_goThrough_32 rfl ?_
    refine aw_getf (pc := 33) (v := .inl (w 49 11)) dX12_goThrough_33 fl_RX12_131 (by decide) rfl rfl rfl ?_
    refine aw_iconst (pc := 36) dX12_goThrough_36 ⟨by decide, by decide⟩ ?_
    refine aw_icmp_ne (pc := 37) (tgt := 66) dX12_goThrough_37 (by decide) (fun hc => ?_) (fun hc => ?_)
    · rw [if_neg hc] at h
      exact aw_sel [0] rfl (w_m_goThrough_49_50_66 N d hd  _ _ h)
    · rw [if_pos hc] at h
      refine aw_aload_n (pc := 40) (q := 0) dX12_goThrough_40 rfl ?_
      obtain ⟨r1, w1, h1, h⟩ := aw_b2s h
      refine aw_callV (pc := 41) (as := []) (st := []) (st' := [.inl r1]) dX12_goThrough_41 cv_RX12_141 (by decide) rfl rfl rfl rfl (Nat.le_of_ble_eq_true rfl) (w_m_look N d (by omega) _ _ _ h1) rfl ?_
      refine aw_bipush (pc := 44) dX12_goThrough_44 (by decide) ⟨by decide, by decide⟩ ?_
      refine aw_icmp_ne (pc := 46) (tgt := 66) dX12_goThrough_46 (by decide) (fun hc => ?_) (fun hc => ?_)
      · rw [if_neg hc] at h
        exact aw_sel [0] rfl (w_m_goThrough_49_50_66 N d hd  _ _ h)
      · rw [if_pos hc] at h
        refine aw_aload_n (pc := 49) (q := 0) dX12_goThrough_49 rfl ?_
        refine aw_dup (pc := 50) dX12_goThrough_50 rfl ?_
        refine aw_getf (pc := 51) (v := .inl (w1 49 10)) dX12_goThrough_51 fl_RX12_122 (by decide) rfl rfl rfl ?_
        refine aw_iconst (pc := 54) dX12_goThrough_54 ⟨by decide, by decide⟩ ?_
        refine aw_iadd (pc := 55) dX12_goThrough_55 ?_
        refine aw_puti (pc := 56) dX12_goThrough_56 fp_RX12_122 (by decide) rfl rfl ?_
        refine aw_aload_n (pc := 59) (q := 0) dX12_goThrough_59 rfl ?_
        obtain ⟨w2, h2, h⟩ := aw_b1s h
        refine aw_callV (pc := 60) (as := []) (st := []) (st' := []) dX12_goThrough_60 cv_RX12_214 (by decide) rfl rfl rfl rfl (Nat.le_of_ble_eq_true rfl) (w_m_clause N d (by omega) _ _ h2) rfl ?_
        refine aw_goto (pc := 63) (tgt := 32) dX12_goThrough_63 (by decide) ?_
        exact aw_sel [0] rfl (ih _ _ h)
def m_goThrough_49_50 (N : Nat) (x2 x3 : Int) (w : aw_W) : Option (aw_W) :=
  aw_b1 (m_opens_49_50 N x2 x3 w) fun w1 =>
    aw_b1 (m_clause N (aw_up (aw_up (aw_up (aw_up w1 49 13 121) 49 12 0) 49 17 0) 49 14 0)) fun w2 =>
      m_goThrough_49_50_32 N N w2
theorem w_m_goThrough_49_50_d {l : Launch} {K : aw_K} (N d : Nat) (hd : 126 ≤ d) : ∀ (x2 x3 : Int) (w v : aw_W), m_goThrough_49_50 N x2 x3 w = some v → aw_Met l K MX12_goThrough (d + 1) [.inr (.inr 49), .inr (.inr 50), .inl x2, .inl x3] w (none, v) := by
  intro x2 x3 w v h
  unfold m_goThrough_49_50 at h
  refine aw_enter rfl (Nat.le_of_ble_eq_true rfl) ?_
  show aw_AW l K MX12_goThrough (d + 1) 0 [(0, .inr (.inr 49)), (1, .inr (.inr 50)), (2, .inl x2), (3, .inl x3)] [] w (none, v)
  refine aw_aload_n (pc := 0) (q := 0) dX12_goThrough_0 rfl ?_
  refine aw_aload_n (pc := 1) (q := 1) dX12_goThrough_1 rfl ?_
  refine aw_iload_n (pc := 2) (q := 2) dX12_goThrough_2 rfl ?_
  refine aw_iload_n (pc := 3) (q := 3) dX12_goThrough_3 rfl ?_
  obtain ⟨w1, h1, h⟩ := aw_b1s h
  refine aw_callV (pc := 4) (as := [.inr (.inr 50), .inl x2, .inl x3]) (st := []) (st' := []) dX12_goThrough_4 cv_RX12_210 (by decide) rfl rfl rfl rfl (Nat.le_of_ble_eq_true rfl) (w_m_opens_49_50 N d (by omega) _ _ _ _ h1) rfl ?_
  refine aw_aload_n (pc := 7) (q := 0) dX12_goThrough_7 rfl ?_
  refine aw_bipush (pc := 8) dX12_goThrough_8 (by decide) ⟨by decide, by decide⟩ ?_
  refine aw_puti (pc := 10) dX12_goThrough_10 fp_RX12_204 (by decide) rfl rfl ?_
  refine aw_aload_n (pc := 13) (q := 0) dX12_goThrough_13 rfl ?_
  refine aw_iconst (pc := 14) dX12_goThrough_14 ⟨by decide, by decide⟩ ?_
  refine aw_puti (pc := 15) dX12_goThrough_15 fp_RX12_134 (by decide) rfl rfl ?_
  refine aw_aload_n (pc := 18) (q := 0) dX12_goThrough_18 rfl ?_
  refine aw_iconst (pc := 19) dX12_goThrough_19 ⟨by decide, by decide⟩ ?_
  refine aw_putz (pc := 20) dX12_goThrough_20 fp_RX12_200 (by decide) rfl rfl (by decide) ?_
  refine aw_aload_n (pc := 23) (q := 0) dX12_goThrough_23 rfl ?_
  refine aw_iconst (pc := 24) dX12_goThrough_24 ⟨by decide, by decide⟩ ?_
  refine aw_puti (pc := 25) dX12_goThrough_25 fp_RX12_207 (by decide) rfl rfl ?_
  refine aw_aload_n (pc := 28) (q := 0) dX12_goThrough_28 rfl ?_
  obtain ⟨w2, h2, h⟩ := aw_b1s h
  refine aw_callV (pc := 29) (as := []) (st := []) (st' := []) dX12_goThrough_29 cv_RX12_214 (by decide) rfl rfl rfl rfl (Nat.le_of_ble_eq_true rfl) (w_m_clause N d (by omega) _ _ h2) rfl ?_
  exact aw_sel [0] rfl (w_m_goThrough_49_50_32 N d hd  N _ _ h)
theorem w_m_goThrough_49_50 {l : Launch} {K : aw_K} (N d : Nat) (hd : 127 ≤ d) : ∀ (x2 x3 : Int) (w v : aw_W), m_goThrough_49_50 N x2 x3 w = some v → aw_Met l K MX12_goThrough (d) [.inr (.inr 49), .inr (.inr 50), .inl x2, .inl x3] w (none, v) := by
  obtain ⟨e, rfl⟩ : ∃ e, d = e + 1 := ⟨d - 1, by omega⟩
  exact w_m_goThrough_49_50_d N e (by omega)
theorem dX12_placeOf_0 : decode cX12_placeOf 0 = .ok (.iconst 0, 1) := by decide +kernel
theorem dX12_placeOf_1 : decode cX12_placeOf 1 = .ok (.istore_n 2, 1) := by decide +kernel
theorem dX12_placeOf_2 : decode cX12_placeOf 2 = .ok (.iload_n 2, 1) := by decide +kernel
theorem dX12_placeOf_3 : decode cX12_placeOf 3 = .ok (.aload_n 0, 1) := by decide +kernel
theorem dX12_placeOf_4 : decode cX12_placeOf 4 = .ok (.invokevirtual 102, 3) := by decide +kernel
theorem dX12_placeOf_7 : decode cX12_placeOf 7 = .ok (.if_icmp .ge 20, 3) := by decide +kernel
theorem dX12_placeOf_10 : decode cX12_placeOf 10 = .ok (.aload_n 0, 1) := by decide +kernel
theorem dX12_placeOf_11 : decode cX12_placeOf 11 = .ok (.iload_n 2, 1) := by decide +kernel
theorem dX12_placeOf_12 : decode cX12_placeOf 12 = .ok (.invokevirtual 108, 3) := by decide +kernel
theorem dX12_placeOf_15 : decode cX12_placeOf 15 = .ok (.iload_n 1, 1) := by decide +kernel
theorem dX12_placeOf_16 : decode cX12_placeOf 16 = .ok (.if_icmp .ne 5, 3) := by decide +kernel
theorem dX12_placeOf_19 : decode cX12_placeOf 19 = .ok (.iload_n 2, 1) := by decide +kernel
theorem dX12_placeOf_20 : decode cX12_placeOf 20 = .ok (.ireturn, 1) := by decide +kernel
theorem dX12_placeOf_21 : decode cX12_placeOf 21 = .ok (.iinc 2 1, 3) := by decide +kernel
theorem dX12_placeOf_24 : decode cX12_placeOf 24 = .ok (.goto (-22), 3) := by decide +kernel
theorem dX12_placeOf_27 : decode cX12_placeOf 27 = .ok (.iconst (-1), 1) := by decide +kernel
theorem dX12_placeOf_28 : decode cX12_placeOf 28 = .ok (.ireturn, 1) := by decide +kernel
def m_placeOf_27 (N : Nat) (w : aw_W) : Option (Int × aw_W) :=
  some ((-1), w)
theorem w_m_placeOf_27 {l : Launch} {K : aw_K} (N d : Nat) (hd : 3 ≤ d) : ∀ (w : aw_W) (y : Int) (v : aw_W), m_placeOf_27 N w = some (y, v) → aw_AW l K MX12_placeOf (d + 1) 27 [] [] w (some (.inl y), v) := by
  intro w y v h
  unfold m_placeOf_27 at h
  refine aw_iconst (pc := 27) dX12_placeOf_27 ⟨by decide, by decide⟩ ?_
  cases h
  exact aw_iret (pc := 28) rfl dX12_placeOf_28
def m_placeOf_19 (N : Nat) (x2 : Int) (w : aw_W) : Option (Int × aw_W) :=
  some (x2, w)
theorem w_m_placeOf_19 {l : Launch} {K : aw_K} (N d : Nat) (hd : 3 ≤ d) : ∀ (x2 : Int) (w : aw_W) (y : Int) (v : aw_W), m_placeOf_19 N x2 w = some (y, v) → aw_AW l K MX12_placeOf (d + 1) 19 [(2, .inl x2)] [] w (some (.inl y), v) := by
  intro x2 w y v h
  unfold m_placeOf_19 at h
  refine aw_iload_n (pc := 19) (q := 0) dX12_placeOf_19 rfl ?_
  cases h
  exact aw_iret (pc := 20) rfl dX12_placeOf_20
def m_placeOf_2 (N : Nat) : Nat → Int → Int → aw_W → Option (Int × aw_W)
  | 0, _, _, _ => none
  | n + 1, x1, x2, w =>
    aw_b2 (j_Str_length_223 N w) fun r1 w1 =>
      if r1 ≤ x2 then
        m_placeOf_27 N w1
      else
        aw_b2 (j_Str_charAt_223 N x2 w1) fun r2 w2 =>
          if r2 = x1 then
            m_placeOf_19 N x2 w2
          else
            m_placeOf_2 N n x1 (aw_w (x2 + 1)) w2
theorem w_m_placeOf_2 {l : Launch} {K : aw_K} (N d : Nat) (hd : 3 ≤ d) : ∀ (n : Nat) (x1 x2 : Int) (w : aw_W) (y : Int) (v : aw_W), m_placeOf_2 N n x1 x2 w = some (y, v) → aw_AW l K MX12_placeOf (d + 1) 2 [(0, .inr (.inr 223)), (1, .inl x1), (2, .inl x2)] [] w (some (.inl y), v) := by
  intro n
  induction n with
  | zero => intro x1 x2 w y v h; rw [m_placeOf_2] at h; cases h
  | succ n ih =>
    intro x1 x2 w y v h
    rw [m_placeOf_2] at h
    refine aw_iload_n (pc := 2) (q := 2) dX12_placeOf_2 rfl ?_
    refine aw_aload_n (pc := 3) (q := 0) dX12_placeOf_3 rfl ?_
    obtain ⟨r1, w1, h1, h⟩ := aw_b2s h
    refine aw_callT (pc := 4) (k := 3) (as := []) (st := [.inl x2]) (st' := [.inl r1, .inl x2]) dX12_placeOf_4 cv_RX12_102 (by decide) rfl rfl rfl (Nat.le_of_ble_eq_true rfl) (w_j_Str_length_223 N d (by omega) _ _ _ h1) rfl ?_
    refine aw_icmp_ge (pc := 7) (tgt := 27) dX12_placeOf_7 (by decide) (fun hc => ?_) (fun hc => ?_)
    · rw [if_pos hc] at h
      exact aw_sel [] rfl (w_m_placeOf_27 N d hd  _ _ _ h)
    · rw [if_neg hc] at h
      refine aw_aload_n (pc := 10) (q := 0) dX12_placeOf_10 rfl ?_
      refine aw_iload_n (pc := 11) (q := 2) dX12_placeOf_11 rfl ?_
      obtain ⟨r2, w2, h2, h⟩ := aw_b2s h
      refine aw_callT (pc := 12) (k := 3) (as := [.inl x2]) (st := []) (st' := [.inl r2]) dX12_placeOf_12 cv_RX12_108 (by decide) rfl rfl rfl (Nat.le_of_ble_eq_true rfl) (w_j_Str_charAt_223 N d (by omega) _ _ _ _ h2) rfl ?_
      refine aw_iload_n (pc := 15) (q := 1) dX12_placeOf_15 rfl ?_
      refine aw_icmp_ne (pc := 16) (tgt := 21) dX12_placeOf_16 (by decide) (fun hc => ?_) (fun hc => ?_)
      · rw [if_neg hc] at h
        refine aw_iinc (pc := 21) (q := 2) (ls' := [(2, .inl (aw_w (x2 + 1))), (0, .inr (.inr 223)), (1, .inl x1)]) dX12_placeOf_21 rfl (by decide) rfl ?_
        refine aw_goto (pc := 24) (tgt := 2) dX12_placeOf_24 (by decide) ?_
        exact aw_sel [1, 2, 0] rfl (ih _ _ _ _ _ h)
      · rw [if_pos hc] at h
        exact aw_sel [2] rfl (w_m_placeOf_19 N d hd  _ _ _ _ h)
def m_placeOf (N : Nat) (x1 : Int) (w : aw_W) : Option (Int × aw_W) :=
  m_placeOf_2 N N x1 0 w
theorem w_m_placeOf_d {l : Launch} {K : aw_K} (N d : Nat) (hd : 3 ≤ d) : ∀ (x1 : Int) (w : aw_W) (y : Int) (v : aw_W), m_placeOf N x1 w = some (y, v) → aw_Met l K MX12_placeOf (d + 1) [.inr (.inr 223), .inl x1] w (some (.inl y), v) := by
  intro x1 w y v h
  unfold m_placeOf at h
  refine aw_enter rfl (Nat.le_of_ble_eq_true rfl) ?_
  show aw_AW l K MX12_placeOf (d + 1) 0 [(0, .inr (.inr 223)), (1, .inl x1)] [] w (some (.inl y), v)
  refine aw_iconst (pc := 0) dX12_placeOf_0 ⟨by decide, by decide⟩ ?_
  refine aw_istore_n (pc := 1) (ls' := [(2, .inl 0), (0, .inr (.inr 223)), (1, .inl x1)]) dX12_placeOf_1 (by decide) rfl ?_
  exact aw_sel [1, 2, 0] rfl (w_m_placeOf_2 N d hd  N _ _ _ _ _ h)
theorem w_m_placeOf {l : Launch} {K : aw_K} (N d : Nat) (hd : 4 ≤ d) : ∀ (x1 : Int) (w : aw_W) (y : Int) (v : aw_W), m_placeOf N x1 w = some (y, v) → aw_Met l K MX12_placeOf (d) [.inr (.inr 223), .inl x1] w (some (.inl y), v) := by
  obtain ⟨e, rfl⟩ : ∃ e, d = e + 1 := ⟨d - 1, by omega⟩
  exact w_m_placeOf_d N e (by omega)
theorem dX12_here_0 : decode cX12_here 0 = .ok (.aload_n 0, 1) := by decide +kernel
theorem dX12_here_1 : decode cX12_here 1 = .ok (.getfield 122, 3) := by decide +kernel
theorem dX12_here_4 : decode cX12_here 4 = .ok (.aload_n 0, 1) := by decide +kernel
theorem dX12_here_5 : decode cX12_here 5 = .ok (.getfield 125, 3) := by decide +kernel
theorem dX12_here_8 : decode cX12_here 8 = .ok (.if_icmp .ge 24, 3) := by decide +kernel
theorem dX12_here_11 : decode cX12_here 11 = .ok (.aload_n 0, 1) := by decide +kernel
theorem dX12_here_12 : decode cX12_here 12 = .ok (.getfield 23, 3) := by decide +kernel
theorem dX12_here_15 : decode cX12_here 15 = .ok (.aload_n 0, 1) := by decide +kernel
theorem dX12_here_16 : decode cX12_here 16 = .ok (.getfield 128, 3) := by decide +kernel
theorem dX12_here_19 : decode cX12_here 19 = .ok (.aload_n 0, 1) := by decide +kernel
theorem dX12_here_20 : decode cX12_here 20 = .ok (.getfield 122, 3) := by decide +kernel
theorem dX12_here_23 : decode cX12_here 23 = .ok (.iadd, 1) := by decide +kernel
theorem dX12_here_24 : decode cX12_here 24 = .ok (.baload, 1) := by decide +kernel
theorem dX12_here_25 : decode cX12_here 25 = .ok (.sipush 255, 3) := by decide +kernel
theorem dX12_here_28 : decode cX12_here 28 = .ok (.iand, 1) := by decide +kernel
theorem dX12_here_29 : decode cX12_here 29 = .ok (.goto 4, 3) := by decide +kernel
theorem dX12_here_32 : decode cX12_here 32 = .ok (.iconst (-1), 1) := by decide +kernel
theorem dX12_here_33 : decode cX12_here 33 = .ok (.ireturn, 1) := by decide +kernel
def m_here_33 (N : Nat) (s0 : Int) (w : aw_W) : Option (Int × aw_W) :=
  some (s0, w)
theorem w_m_here_33 {l : Launch} {K : aw_K} (N d : Nat) : ∀ (s0 : Int) (w : aw_W) (y : Int) (v : aw_W), m_here_33 N s0 w = some (y, v) → aw_AW l K MX12_here (d) 33 [] [.inl s0] w (some (.inl y), v) := by
  intro s0 w y v h
  unfold m_here_33 at h
  cases h
  exact aw_iret (pc := 33) rfl dX12_here_33
def m_here (N : Nat) (w : aw_W) : Option (Int × aw_W) :=
  if (w 49 9) ≤ (w 49 10) then
    m_here_33 N (-1) w
  else
    if aw_bA ((w 49 5).toNat) = true ∧ 0 ≤ (aw_w ((w 49 8) + (w 49 10))) ∧ (aw_w ((w 49 8) + (w 49 10))) < aw_ln ((w 49 5).toNat) then
      m_here_33 N (aw_and (w ((w 49 5).toNat) ((aw_w ((w 49 8) + (w 49 10))).toNat)) 255) w
    else none
theorem w_m_here {l : Launch} {K : aw_K} (N d : Nat) (hd : 0 ≤ d) : ∀ (w : aw_W) (y : Int) (v : aw_W), m_here N w = some (y, v) → aw_Met l K MX12_here (d) [.inr (.inr 49)] w (some (.inl y), v) := by
  intro w y v h
  unfold m_here at h
  refine aw_enter rfl (Nat.le_of_ble_eq_true rfl) ?_
  show aw_AW l K MX12_here (d) 0 [(0, .inr (.inr 49))] [] w (some (.inl y), v)
  refine aw_aload_n (pc := 0) (q := 0) dX12_here_0 rfl ?_
  refine aw_getf (pc := 1) (v := .inl (w 49 10)) dX12_here_1 fl_RX12_122 (by decide) rfl rfl rfl ?_
  refine aw_aload_n (pc := 4) (q := 0) dX12_here_4 rfl ?_
  refine aw_getf (pc := 5) (v := .inl (w 49 9)) dX12_here_5 fl_RX12_125 (by decide) rfl rfl rfl ?_
  refine aw_icmp_ge (pc := 8) (tgt := 32) dX12_here_8 (by decide) (fun hc => ?_) (fun hc => ?_)
  · rw [if_pos hc] at h
    refine aw_iconst (pc := 32) dX12_here_32 ⟨by decide, by decide⟩ ?_
    exact aw_sel [] rfl (w_m_here_33 N d  _ _ _ _ h)
  · rw [if_neg hc] at h
    refine aw_aload_n (pc := 11) (q := 0) dX12_here_11 rfl ?_
    refine aw_getf (pc := 12) (v := .inr (.inr ((w 49 5).toNat))) dX12_here_12 fl_RX12_23 (by decide) rfl rfl rfl ?_
    refine aw_aload_n (pc := 15) (q := 0) dX12_here_15 rfl ?_
    refine aw_getf (pc := 16) (v := .inl (w 49 8)) dX12_here_16 fl_RX12_128 (by decide) rfl rfl rfl ?_
    refine aw_aload_n (pc := 19) (q := 0) dX12_here_19 rfl ?_
    refine aw_getf (pc := 20) (v := .inl (w 49 10)) dX12_here_20 fl_RX12_122 (by decide) rfl rfl rfl ?_
    refine aw_iadd (pc := 23) dX12_here_23 ?_
    obtain ⟨hb, h⟩ := aw_cks h
    refine aw_baldx (pc := 24) (v := w ((w 49 5).toNat) ((aw_w ((w 49 8) + (w 49 10))).toNat)) dX12_here_24 hb.1 hb.2.1 hb.2.2 rfl ?_
    refine aw_sipush (pc := 25) dX12_here_25 (by decide) ⟨by decide, by decide⟩ ?_
    refine aw_iand (pc := 28) dX12_here_28 ?_
    refine aw_goto (pc := 29) (tgt := 33) dX12_here_29 (by decide) ?_
    exact aw_sel [] rfl (w_m_here_33 N d  _ _ _ _ h)
theorem dX12_readItem_0 : decode cX12_readItem 0 = .ok (.aload_n 0, 1) := by decide +kernel
theorem dX12_readItem_1 : decode cX12_readItem 1 = .ok (.dup, 1) := by decide +kernel
theorem dX12_readItem_2 : decode cX12_readItem 2 = .ok (.getfield 122, 3) := by decide +kernel
theorem dX12_readItem_5 : decode cX12_readItem 5 = .ok (.iconst 1, 1) := by decide +kernel
theorem dX12_readItem_6 : decode cX12_readItem 6 = .ok (.iadd, 1) := by decide +kernel
theorem dX12_readItem_7 : decode cX12_readItem 7 = .ok (.putfield 122, 3) := by decide +kernel
theorem dX12_readItem_10 : decode cX12_readItem 10 = .ok (.aload_n 0, 1) := by decide +kernel
theorem dX12_readItem_11 : decode cX12_readItem 11 = .ok (.invokevirtual 141, 3) := by decide +kernel
theorem dX12_readItem_14 : decode cX12_readItem 14 = .ok (.istore 5, 2) := by decide +kernel
theorem dX12_readItem_16 : decode cX12_readItem 16 = .ok (.aload_n 0, 1) := by decide +kernel
theorem dX12_readItem_17 : decode cX12_readItem 17 = .ok (.invokevirtual 171, 3) := by decide +kernel
theorem dX12_readItem_20 : decode cX12_readItem 20 = .ok (.ifCond .ne 9, 3) := by decide +kernel
theorem dX12_readItem_23 : decode cX12_readItem 23 = .ok (.aload_n 0, 1) := by decide +kernel
theorem dX12_readItem_24 : decode cX12_readItem 24 = .ok (.invokevirtual 137, 3) := by decide +kernel
theorem dX12_readItem_27 : decode cX12_readItem 27 = .ok (.pop, 1) := by decide +kernel
theorem dX12_readItem_28 : decode cX12_readItem 28 = .ok (.return_, 1) := by decide +kernel
theorem dX12_readItem_29 : decode cX12_readItem 29 = .ok (.aload_n 0, 1) := by decide +kernel
theorem dX12_readItem_30 : decode cX12_readItem 30 = .ok (.invokevirtual 217, 3) := by decide +kernel
theorem dX12_readItem_33 : decode cX12_readItem 33 = .ok (.bipush 48, 2) := by decide +kernel
theorem dX12_readItem_35 : decode cX12_readItem 35 = .ok (.isub, 1) := by decide +kernel
theorem dX12_readItem_36 : decode cX12_readItem 36 = .ok (.istore 6, 2) := by decide +kernel
theorem dX12_readItem_38 : decode cX12_readItem 38 = .ok (.aload_n 0, 1) := by decide +kernel
theorem dX12_readItem_39 : decode cX12_readItem 39 = .ok (.dup, 1) := by decide +kernel
theorem dX12_readItem_40 : decode cX12_readItem 40 = .ok (.getfield 122, 3) := by decide +kernel
theorem dX12_readItem_43 : decode cX12_readItem 43 = .ok (.iconst 1, 1) := by decide +kernel
theorem dX12_readItem_44 : decode cX12_readItem 44 = .ok (.iadd, 1) := by decide +kernel
theorem dX12_readItem_45 : decode cX12_readItem 45 = .ok (.putfield 122, 3) := by decide +kernel
theorem dX12_readItem_48 : decode cX12_readItem 48 = .ok (.aload_n 0, 1) := by decide +kernel
theorem dX12_readItem_49 : decode cX12_readItem 49 = .ok (.invokevirtual 171, 3) := by decide +kernel
theorem dX12_readItem_52 : decode cX12_readItem 52 = .ok (.ifCond .eq 28, 3) := by decide +kernel
theorem dX12_readItem_55 : decode cX12_readItem 55 = .ok (.bipush 10, 2) := by decide +kernel
theorem dX12_readItem_57 : decode cX12_readItem 57 = .ok (.iload 6, 2) := by decide +kernel
theorem dX12_readItem_59 : decode cX12_readItem 59 = .ok (.imul, 1) := by decide +kernel
theorem dX12_readItem_60 : decode cX12_readItem 60 = .ok (.aload_n 0, 1) := by decide +kernel
theorem dX12_readItem_61 : decode cX12_readItem 61 = .ok (.invokevirtual 217, 3) := by decide +kernel
theorem dX12_readItem_64 : decode cX12_readItem 64 = .ok (.iadd, 1) := by decide +kernel
theorem dX12_readItem_65 : decode cX12_readItem 65 = .ok (.bipush 48, 2) := by decide +kernel
theorem dX12_readItem_67 : decode cX12_readItem 67 = .ok (.isub, 1) := by decide +kernel
theorem dX12_readItem_68 : decode cX12_readItem 68 = .ok (.istore 6, 2) := by decide +kernel
theorem dX12_readItem_70 : decode cX12_readItem 70 = .ok (.aload_n 0, 1) := by decide +kernel
theorem dX12_readItem_71 : decode cX12_readItem 71 = .ok (.dup, 1) := by decide +kernel
theorem dX12_readItem_72 : decode cX12_readItem 72 = .ok (.getfield 122, 3) := by decide +kernel
theorem dX12_readItem_75 : decode cX12_readItem 75 = .ok (.iconst 1, 1) := by decide +kernel
theorem dX12_readItem_76 : decode cX12_readItem 76 = .ok (.iadd, 1) := by decide +kernel
theorem dX12_readItem_77 : decode cX12_readItem 77 = .ok (.putfield 122, 3) := by decide +kernel
theorem dX12_readItem_80 : decode cX12_readItem 80 = .ok (.aload_n 0, 1) := by decide +kernel
theorem dX12_readItem_81 : decode cX12_readItem 81 = .ok (.invokevirtual 171, 3) := by decide +kernel
theorem dX12_readItem_84 : decode cX12_readItem 84 = .ok (.ifCond .eq 9, 3) := by decide +kernel
theorem dX12_readItem_87 : decode cX12_readItem 87 = .ok (.aload_n 0, 1) := by decide +kernel
theorem dX12_readItem_88 : decode cX12_readItem 88 = .ok (.invokevirtual 137, 3) := by decide +kernel
theorem dX12_readItem_91 : decode cX12_readItem 91 = .ok (.pop, 1) := by decide +kernel
theorem dX12_readItem_92 : decode cX12_readItem 92 = .ok (.return_, 1) := by decide +kernel
theorem dX12_readItem_93 : decode cX12_readItem 93 = .ok (.iload 6, 2) := by decide +kernel
theorem dX12_readItem_95 : decode cX12_readItem 95 = .ok (.i2l, 1) := by decide +kernel
theorem dX12_readItem_96 : decode cX12_readItem 96 = .ok (.iload_n 1, 1) := by decide +kernel
theorem dX12_readItem_97 : decode cX12_readItem 97 = .ok (.iload_n 2, 1) := by decide +kernel
theorem dX12_readItem_98 : decode cX12_readItem 98 = .ok (.invokestatic 220, 3) := by decide +kernel
theorem dX12_readItem_101 : decode cX12_readItem 101 = .ok (.i2l, 1) := by decide +kernel
theorem dX12_readItem_102 : decode cX12_readItem 102 = .ok (.iload_n 1, 1) := by decide +kernel
theorem dX12_readItem_103 : decode cX12_readItem 103 = .ok (.iload_n 2, 1) := by decide +kernel
theorem dX12_readItem_104 : decode cX12_readItem 104 = .ok (.invokestatic 224, 3) := by decide +kernel
theorem dX12_readItem_107 : decode cX12_readItem 107 = .ok (.i2l, 1) := by decide +kernel
theorem dX12_readItem_108 : decode cX12_readItem 108 = .ok (.invokestatic 227, 3) := by decide +kernel
theorem dX12_readItem_111 : decode cX12_readItem 111 = .ok (.ifCond .ne 19, 3) := by decide +kernel
theorem dX12_readItem_114 : decode cX12_readItem 114 = .ok (.aload_n 0, 1) := by decide +kernel
theorem dX12_readItem_115 : decode cX12_readItem 115 = .ok (.dup, 1) := by decide +kernel
theorem dX12_readItem_116 : decode cX12_readItem 116 = .ok (.getfield 122, 3) := by decide +kernel
theorem dX12_readItem_119 : decode cX12_readItem 119 = .ok (.iconst 1, 1) := by decide +kernel
theorem dX12_readItem_120 : decode cX12_readItem 120 = .ok (.isub, 1) := by decide +kernel
theorem dX12_readItem_121 : decode cX12_readItem 121 = .ok (.putfield 122, 3) := by decide +kernel
theorem dX12_readItem_124 : decode cX12_readItem 124 = .ok (.aload_n 0, 1) := by decide +kernel
theorem dX12_readItem_125 : decode cX12_readItem 125 = .ok (.invokevirtual 137, 3) := by decide +kernel
theorem dX12_readItem_128 : decode cX12_readItem 128 = .ok (.pop, 1) := by decide +kernel
theorem dX12_readItem_129 : decode cX12_readItem 129 = .ok (.return_, 1) := by decide +kernel
theorem dX12_readItem_130 : decode cX12_readItem 130 = .ok (.aload_n 3, 1) := by decide +kernel
theorem dX12_readItem_131 : decode cX12_readItem 131 = .ok (.iload 4, 2) := by decide +kernel
theorem dX12_readItem_133 : decode cX12_readItem 133 = .ok (.iload_n 2, 1) := by decide +kernel
theorem dX12_readItem_134 : decode cX12_readItem 134 = .ok (.iadd, 1) := by decide +kernel
theorem dX12_readItem_135 : decode cX12_readItem 135 = .ok (.iload 6, 2) := by decide +kernel
theorem dX12_readItem_137 : decode cX12_readItem 137 = .ok (.iastore, 1) := by decide +kernel
theorem dX12_readItem_138 : decode cX12_readItem 138 = .ok (.return_, 1) := by decide +kernel
def m_readItem_80 (N : Nat) (x1 x2 x4 x6 : Int) (w : aw_W) : Option (aw_W) :=
  aw_b2 (m_isDigit N w) fun r1 w1 =>
    if r1 = 0 then
      aw_b2 (m_leastOf N x1 x2 w1) fun r2 w2 =>
        aw_b2 (m_mostOf N x1 x2 w2) fun r3 w3 =>
          aw_b2 (m_isIn N x6 r2 r3 w3) fun r4 w4 =>
            if r4 = 0 then
              aw_b2 (m_fails N (aw_up w4 49 10 (aw_w ((w4 49 10) - 1)))) fun r5 w5 =>
                some w5
            else
              if 0 ≤ (aw_w (x4 + x2)) ∧ (aw_w (x4 + x2)) < 24 then
                some (aw_up w4 55 ((aw_w (x4 + x2)).toNat) x6)
              else none
    else
      aw_b2 (m_fails N w1) fun r6 w6 =>
        some w6
theorem w_m_readItem_80 {l : Launch} {K : aw_K} (N d : Nat) (hd : 0 ≤ d) : ∀ (x1 x2 x4 x6 : Int) (w v : aw_W), m_readItem_80 N x1 x2 x4 x6 w = some v → aw_AW l K MX12_readItem (d + 1) 80 [(0, .inr (.inr 49)), (1, .inl x1), (2, .inl x2), (3, .inr (.inr 55)), (4, .inl x4), (6, .inl x6)] [] w (none, v) := by
  intro x1 x2 x4 x6 w v h
  unfold m_readItem_80 at h
  refine aw_aload_n (pc := 80) (q := 0) dX12_readItem_80 rfl ?_
  obtain ⟨r1, w1, h1, h⟩ := aw_b2s h
  refine aw_callV (pc := 81) (as := []) (st := []) (st' := [.inl r1]) dX12_readItem_81 cv_RX12_171 (by decide) rfl rfl rfl rfl (Nat.le_of_ble_eq_true rfl) (w_m_isDigit N d (by omega) _ _ _ h1) rfl ?_
  refine aw_if_eq (pc := 84) (tgt := 93) dX12_readItem_84 (by decide) (fun hc => ?_) (fun hc => ?_)
  · rw [if_pos hc] at h
    refine aw_iload (pc := 93) (q := 5) dX12_readItem_93 rfl ?_
    refine aw_i2l (pc := 95) dX12_readItem_95 ?_
    refine aw_iload_n (pc := 96) (q := 1) dX12_readItem_96 rfl ?_
    refine aw_iload_n (pc := 97) (q := 2) dX12_readItem_97 rfl ?_
    obtain ⟨r2, w2, h2, h⟩ := aw_b2s h
    refine aw_callS (pc := 98) (as := [.inl x1, .inl x2]) (st := [.inr (.inl x6)]) (st' := [.inl r2, .inr (.inl x6)]) dX12_readItem_98 cs_RX12_220 rfl rfl (Nat.le_of_ble_eq_true rfl) (w_m_leastOf N d (by omega) _ _ _ _ _ h2) rfl ?_
    refine aw_i2l (pc := 101) dX12_readItem_101 ?_
    refine aw_iload_n (pc := 102) (q := 1) dX12_readItem_102 rfl ?_
    refine aw_iload_n (pc := 103) (q := 2) dX12_readItem_103 rfl ?_
    obtain ⟨r3, w3, h3, h⟩ := aw_b2s h
    refine aw_callS (pc := 104) (as := [.inl x1, .inl x2]) (st := [.inr (.inl r2), .inr (.inl x6)]) (st' := [.inl r3, .inr (.inl r2), .inr (.inl x6)]) dX12_readItem_104 cs_RX12_224 rfl rfl (Nat.le_of_ble_eq_true rfl) (w_m_mostOf N d (by omega) _ _ _ _ _ h3) rfl ?_
    refine aw_i2l (pc := 107) dX12_readItem_107 ?_
    obtain ⟨r4, w4, h4, h⟩ := aw_b2s h
    refine aw_callS (pc := 108) (as := [.inr (.inl x6), .inr (.inl r2), .inr (.inl r3)]) (st := []) (st' := [.inl r4]) dX12_readItem_108 cs_RX12_227 rfl rfl (Nat.le_of_ble_eq_true rfl) (w_m_isIn N d (by omega) _ _ _ _ _ _ h4) rfl ?_
    refine aw_if_ne (pc := 111) (tgt := 130) dX12_readItem_111 (by decide) (fun hc => ?_) (fun hc => ?_)
    · rw [if_neg hc] at h
      refine aw_aload_n (pc := 130) (q := 3) dX12_readItem_130 rfl ?_
      refine aw_iload (pc := 131) (q := 4) dX12_readItem_131 rfl ?_
      refine aw_iload_n (pc := 133) (q := 2) dX12_readItem_133 rfl ?_
      refine aw_iadd (pc := 134) dX12_readItem_134 ?_
      refine aw_iload (pc := 135) (q := 5) dX12_readItem_135 rfl ?_
      obtain ⟨hb, h⟩ := aw_cks h
      refine aw_iast (pc := 137) dX12_readItem_137 rfl hb.1 hb.2 ?_
      cases h
      exact aw_vret (pc := 138) rfl dX12_readItem_138
    · rw [if_pos hc] at h
      refine aw_aload_n (pc := 114) (q := 0) dX12_readItem_114 rfl ?_
      refine aw_dup (pc := 115) dX12_readItem_115 rfl ?_
      refine aw_getf (pc := 116) (v := .inl (w4 49 10)) dX12_readItem_116 fl_RX12_122 (by decide) rfl rfl rfl ?_
      refine aw_iconst (pc := 119) dX12_readItem_119 ⟨by decide, by decide⟩ ?_
      refine aw_isub (pc := 120) dX12_readItem_120 ?_
      refine aw_puti (pc := 121) dX12_readItem_121 fp_RX12_122 (by decide) rfl rfl ?_
      refine aw_aload_n (pc := 124) (q := 0) dX12_readItem_124 rfl ?_
      obtain ⟨r5, w5, h5, h⟩ := aw_b2s h
      refine aw_callV (pc := 125) (as := []) (st := []) (st' := [.inl r5]) dX12_readItem_125 cv_RX12_137 (by decide) rfl rfl rfl rfl (Nat.le_of_ble_eq_true rfl) (w_m_fails N d (by omega) _ _ _ h5) rfl ?_
      refine aw_pop (pc := 128) dX12_readItem_128 rfl ?_
      cases h
      exact aw_vret (pc := 129) rfl dX12_readItem_129
  · rw [if_neg hc] at h
    refine aw_aload_n (pc := 87) (q := 0) dX12_readItem_87 rfl ?_
    obtain ⟨r6, w6, h6, h⟩ := aw_b2s h
    refine aw_callV (pc := 88) (as := []) (st := []) (st' := [.inl r6]) dX12_readItem_88 cv_RX12_137 (by decide) rfl rfl rfl rfl (Nat.le_of_ble_eq_true rfl) (w_m_fails N d (by omega) _ _ _ h6) rfl ?_
    refine aw_pop (pc := 91) dX12_readItem_91 rfl ?_
    cases h
    exact aw_vret (pc := 92) rfl dX12_readItem_92
def m_readItem (N : Nat) (x1 x2 x4 : Int) (w : aw_W) : Option (aw_W) :=
  aw_b2 (m_look N (aw_up w 49 10 (aw_w ((w 49 10) + 1)))) fun r1 w1 =>
    aw_b2 (m_isDigit N w1) fun r2 w2 =>
      if r2 = 0 then
        aw_b2 (m_fails N w2) fun r6 w6 =>
          some w6
      else
        aw_b2 (m_here N w2) fun r3 w3 =>
          aw_b2 (m_isDigit N (aw_up w3 49 10 (aw_w ((w3 49 10) + 1)))) fun r4 w4 =>
            if r4 = 0 then
              m_readItem_80 N x1 x2 x4 (aw_w (r3 - 48)) w4
            else
              aw_b2 (m_here N w4) fun r5 w5 =>
                m_readItem_80 N x1 x2 x4 (aw_w ((aw_w ((aw_w (10 * (aw_w (r3 - 48)))) + r5)) - 48)) (aw_up w5 49 10 (aw_w ((w5 49 10) + 1)))
theorem w_m_readItem_d {l : Launch} {K : aw_K} (N d : Nat) (hd : 0 ≤ d) : ∀ (x1 x2 x4 : Int) (w v : aw_W), m_readItem N x1 x2 x4 w = some v → aw_Met l K MX12_readItem (d + 1) [.inr (.inr 49), .inl x1, .inl x2, .inr (.inr 55), .inl x4] w (none, v) := by
  intro x1 x2 x4 w v h
  unfold m_readItem at h
  refine aw_enter rfl (Nat.le_of_ble_eq_true rfl) ?_
  show aw_AW l K MX12_readItem (d + 1) 0 [(0, .inr (.inr 49)), (1, .inl x1), (2, .inl x2), (3, .inr (.inr 55)), (4, .inl x4)] [] w (none, v)
  refine aw_aload_n (pc := 0) (q := 0) dX12_readItem_0 rfl ?_
  refine aw_dup (pc := 1) dX12_readItem_1 rfl ?_
  refine aw_getf (pc := 2) (v := .inl (w 49 10)) dX12_readItem_2 fl_RX12_122 (by decide) rfl rfl rfl ?_
  refine aw_iconst (pc := 5) dX12_readItem_5 ⟨by decide, by decide⟩ ?_
  refine aw_iadd (pc := 6) dX12_readItem_6 ?_
  refine aw_puti (pc := 7) dX12_readItem_7 fp_RX12_122 (by decide) rfl rfl ?_
  refine aw_aload_n (pc := 10) (q := 0) dX12_readItem_10 rfl ?_
  obtain ⟨r1, w1, h1, h⟩ := aw_b2s h
  refine aw_callV (pc := 11) (as := []) (st := []) (st' := [.inl r1]) dX12_readItem_11 cv_RX12_141 (by decide) rfl rfl rfl rfl (Nat.le_of_ble_eq_true rfl) (w_m_look N d (by omega) _ _ _ h1) rfl ?_
  refine aw_istore (pc := 14) (ls' := [(5, .inl r1), (0, .inr (.inr 49)), (1, .inl x1), (2, .inl x2), (3, .inr (.inr 55)), (4, .inl x4)]) dX12_readItem_14 (by decide) rfl ?_
  refine aw_aload_n (pc := 16) (q := 1) dX12_readItem_16 rfl ?_
  obtain ⟨r2, w2, h2, h⟩ := aw_b2s h
  refine aw_callV (pc := 17) (as := []) (st := []) (st' := [.inl r2]) dX12_readItem_17 cv_RX12_171 (by decide) rfl rfl rfl rfl (Nat.le_of_ble_eq_true rfl) (w_m_isDigit N d (by omega) _ _ _ h2) rfl ?_
  refine aw_if_ne (pc := 20) (tgt := 29) dX12_readItem_20 (by decide) (fun hc => ?_) (fun hc => ?_)
  · rw [if_neg hc] at h
    refine aw_aload_n (pc := 29) (q := 1) dX12_readItem_29 rfl ?_
    obtain ⟨r3, w3, h3, h⟩ := aw_b2s h
    refine aw_callV (pc := 30) (as := []) (st := []) (st' := [.inl r3]) dX12_readItem_30 cv_RX12_217 (by decide) rfl rfl rfl rfl (Nat.le_of_ble_eq_true rfl) (w_m_here N d (by omega) _ _ _ h3) rfl ?_
    refine aw_bipush (pc := 33) dX12_readItem_33 (by decide) ⟨by decide, by decide⟩ ?_
    refine aw_isub (pc := 35) dX12_readItem_35 ?_
    refine aw_istore (pc := 36) (ls' := [(6, .inl (aw_w (r3 - 48))), (5, .inl r1), (0, .inr (.inr 49)), (1, .inl x1), (2, .inl x2), (3, .inr (.inr 55)), (4, .inl x4)]) dX12_readItem_36 (by decide) rfl ?_
    refine aw_aload_n (pc := 38) (q := 2) dX12_readItem_38 rfl ?_
    refine aw_dup (pc := 39) dX12_readItem_39 rfl ?_
    refine aw_getf (pc := 40) (v := .inl (w3 49 10)) dX12_readItem_40 fl_RX12_122 (by decide) rfl rfl rfl ?_
    refine aw_iconst (pc := 43) dX12_readItem_43 ⟨by decide, by decide⟩ ?_
    refine aw_iadd (pc := 44) dX12_readItem_44 ?_
    refine aw_puti (pc := 45) dX12_readItem_45 fp_RX12_122 (by decide) rfl rfl ?_
    refine aw_aload_n (pc := 48) (q := 2) dX12_readItem_48 rfl ?_
    obtain ⟨r4, w4, h4, h⟩ := aw_b2s h
    refine aw_callV (pc := 49) (as := []) (st := []) (st' := [.inl r4]) dX12_readItem_49 cv_RX12_171 (by decide) rfl rfl rfl rfl (Nat.le_of_ble_eq_true rfl) (w_m_isDigit N d (by omega) _ _ _ h4) rfl ?_
    refine aw_if_eq (pc := 52) (tgt := 80) dX12_readItem_52 (by decide) (fun hc => ?_) (fun hc => ?_)
    · rw [if_pos hc] at h
      exact aw_sel [2, 3, 4, 5, 6, 0] rfl (w_m_readItem_80 N d hd  _ _ _ _ _ _ h)
    · rw [if_neg hc] at h
      refine aw_bipush (pc := 55) dX12_readItem_55 (by decide) ⟨by decide, by decide⟩ ?_
      refine aw_iload (pc := 57) (q := 0) dX12_readItem_57 rfl ?_
      refine aw_imul (pc := 59) dX12_readItem_59 ?_
      refine aw_aload_n (pc := 60) (q := 2) dX12_readItem_60 rfl ?_
      obtain ⟨r5, w5, h5, h⟩ := aw_b2s h
      refine aw_callV (pc := 61) (as := []) (st := [.inl (aw_w (10 * (aw_w (r3 - 48))))]) (st' := [.inl r5, .inl (aw_w (10 * (aw_w (r3 - 48))))]) dX12_readItem_61 cv_RX12_217 (by decide) rfl rfl rfl rfl (Nat.le_of_ble_eq_true rfl) (w_m_here N d (by omega) _ _ _ h5) rfl ?_
      refine aw_iadd (pc := 64) dX12_readItem_64 ?_
      refine aw_bipush (pc := 65) dX12_readItem_65 (by decide) ⟨by decide, by decide⟩ ?_
      refine aw_isub (pc := 67) dX12_readItem_67 ?_
      refine aw_istore (pc := 68) (ls' := [(6, .inl (aw_w ((aw_w ((aw_w (10 * (aw_w (r3 - 48)))) + r5)) - 48))), (5, .inl r1), (0, .inr (.inr 49)), (1, .inl x1), (2, .inl x2), (3, .inr (.inr 55)), (4, .inl x4)]) dX12_readItem_68 (by decide) rfl ?_
      refine aw_aload_n (pc := 70) (q := 2) dX12_readItem_70 rfl ?_
      refine aw_dup (pc := 71) dX12_readItem_71 rfl ?_
      refine aw_getf (pc := 72) (v := .inl (w5 49 10)) dX12_readItem_72 fl_RX12_122 (by decide) rfl rfl rfl ?_
      refine aw_iconst (pc := 75) dX12_readItem_75 ⟨by decide, by decide⟩ ?_
      refine aw_iadd (pc := 76) dX12_readItem_76 ?_
      refine aw_puti (pc := 77) dX12_readItem_77 fp_RX12_122 (by decide) rfl rfl ?_
      exact aw_sel [2, 3, 4, 5, 6, 0] rfl (w_m_readItem_80 N d hd  _ _ _ _ _ _ h)
  · rw [if_pos hc] at h
    refine aw_aload_n (pc := 23) (q := 1) dX12_readItem_23 rfl ?_
    obtain ⟨r6, w6, h6, h⟩ := aw_b2s h
    refine aw_callV (pc := 24) (as := []) (st := []) (st' := [.inl r6]) dX12_readItem_24 cv_RX12_137 (by decide) rfl rfl rfl rfl (Nat.le_of_ble_eq_true rfl) (w_m_fails N d (by omega) _ _ _ h6) rfl ?_
    refine aw_pop (pc := 27) dX12_readItem_27 rfl ?_
    cases h
    exact aw_vret (pc := 28) rfl dX12_readItem_28
theorem w_m_readItem {l : Launch} {K : aw_K} (N d : Nat) (hd : 1 ≤ d) : ∀ (x1 x2 x4 : Int) (w v : aw_W), m_readItem N x1 x2 x4 w = some v → aw_Met l K MX12_readItem (d) [.inr (.inr 49), .inl x1, .inl x2, .inr (.inr 55), .inl x4] w (none, v) := by
  obtain ⟨e, rfl⟩ : ∃ e, d = e + 1 := ⟨d - 1, by omega⟩
  exact w_m_readItem_d N e (by omega)
theorem dX12_usual_0 : decode cX12_usual 0 = .ok (.iload_n 0, 1) := by decide +kernel
theorem dX12_usual_1 : decode cX12_usual 1 = .ok (.ifCond .eq 22, 3) := by decide +kernel
theorem dX12_usual_4 : decode cX12_usual 4 = .ok (.iload_n 1, 1) := by decide +kernel
theorem dX12_usual_5 : decode cX12_usual 5 = .ok (.ifCond .ne 7, 3) := by decide +kernel
theorem dX12_usual_8 : decode cX12_usual 8 = .ok (.iconst 2, 1) := by decide +kernel
theorem dX12_usual_9 : decode cX12_usual 9 = .ok (.goto 13, 3) := by decide +kernel
theorem dX12_usual_12 : decode cX12_usual 12 = .ok (.iload_n 1, 1) := by decide +kernel
theorem dX12_usual_13 : decode cX12_usual 13 = .ok (.iconst 4, 1) := by decide +kernel
theorem dX12_usual_14 : decode cX12_usual 14 = .ok (.if_icmp .ne 7, 3) := by decide +kernel
theorem dX12_usual_17 : decode cX12_usual 17 = .ok (.iconst 5, 1) := by decide +kernel
theorem dX12_usual_18 : decode cX12_usual 18 = .ok (.goto 4, 3) := by decide +kernel
theorem dX12_usual_21 : decode cX12_usual 21 = .ok (.iconst 0, 1) := by decide +kernel
theorem dX12_usual_22 : decode cX12_usual 22 = .ok (.ireturn, 1) := by decide +kernel
theorem dX12_usual_23 : decode cX12_usual 23 = .ok (.iload_n 1, 1) := by decide +kernel
theorem dX12_usual_24 : decode cX12_usual 24 = .ok (.ifCond .ne 7, 3) := by decide +kernel
theorem dX12_usual_27 : decode cX12_usual 27 = .ok (.iconst 3, 1) := by decide +kernel
theorem dX12_usual_28 : decode cX12_usual 28 = .ok (.goto 14, 3) := by decide +kernel
theorem dX12_usual_31 : decode cX12_usual 31 = .ok (.iload_n 1, 1) := by decide +kernel
theorem dX12_usual_32 : decode cX12_usual 32 = .ok (.iconst 1, 1) := by decide +kernel
theorem dX12_usual_33 : decode cX12_usual 33 = .ok (.if_icmp .ne 8, 3) := by decide +kernel
theorem dX12_usual_36 : decode cX12_usual 36 = .ok (.bipush 10, 2) := by decide +kernel
theorem dX12_usual_38 : decode cX12_usual 38 = .ok (.goto 4, 3) := by decide +kernel
theorem dX12_usual_41 : decode cX12_usual 41 = .ok (.iconst 0, 1) := by decide +kernel
theorem dX12_usual_42 : decode cX12_usual 42 = .ok (.ireturn, 1) := by decide +kernel
def m_usual_42 (N : Nat) (s0 : Int) (w : aw_W) : Option (Int × aw_W) :=
  some (s0, w)
theorem w_m_usual_42 {l : Launch} {K : aw_K} (N d : Nat) : ∀ (s0 : Int) (w : aw_W) (y : Int) (v : aw_W), m_usual_42 N s0 w = some (y, v) → aw_AW l K MX12_usual (d) 42 [] [.inl s0] w (some (.inl y), v) := by
  intro s0 w y v h
  unfold m_usual_42 at h
  cases h
  exact aw_iret (pc := 42) rfl dX12_usual_42
def m_usual_22 (N : Nat) (s0 : Int) (w : aw_W) : Option (Int × aw_W) :=
  some (s0, w)
theorem w_m_usual_22 {l : Launch} {K : aw_K} (N d : Nat) : ∀ (s0 : Int) (w : aw_W) (y : Int) (v : aw_W), m_usual_22 N s0 w = some (y, v) → aw_AW l K MX12_usual (d) 22 [] [.inl s0] w (some (.inl y), v) := by
  intro s0 w y v h
  unfold m_usual_22 at h
  cases h
  exact aw_iret (pc := 22) rfl dX12_usual_22
def m_usual (N : Nat) (x0 x1 : Int) (w : aw_W) : Option (Int × aw_W) :=
  if x0 = 0 then
    if x1 = 0 then
      m_usual_42 N 3 w
    else
      if x1 = 1 then
        m_usual_42 N 10 w
      else
        m_usual_42 N 0 w
  else
    if x1 = 0 then
      m_usual_22 N 2 w
    else
      if x1 = 4 then
        m_usual_22 N 5 w
      else
        m_usual_22 N 0 w
theorem w_m_usual {l : Launch} {K : aw_K} (N d : Nat) (hd : 0 ≤ d) : ∀ (x0 x1 : Int) (w : aw_W) (y : Int) (v : aw_W), m_usual N x0 x1 w = some (y, v) → aw_Met l K MX12_usual (d) [.inl x0, .inl x1] w (some (.inl y), v) := by
  intro x0 x1 w y v h
  unfold m_usual at h
  refine aw_enter rfl (Nat.le_of_ble_eq_true rfl) ?_
  show aw_AW l K MX12_usual (d) 0 [(0, .inl x0), (1, .inl x1)] [] w (some (.inl y), v)
  refine aw_iload_n (pc := 0) (q := 0) dX12_usual_0 rfl ?_
  refine aw_if_eq (pc := 1) (tgt := 23) dX12_usual_1 (by decide) (fun hc => ?_) (fun hc => ?_)
  · rw [if_pos hc] at h
    refine aw_iload_n (pc := 23) (q := 1) dX12_usual_23 rfl ?_
    refine aw_if_ne (pc := 24) (tgt := 31) dX12_usual_24 (by decide) (fun hc => ?_) (fun hc => ?_)
    · rw [if_neg hc] at h
      refine aw_iload_n (pc := 31) (q := 1) dX12_usual_31 rfl ?_
      refine aw_iconst (pc := 32) dX12_usual_32 ⟨by decide, by decide⟩ ?_
      refine aw_icmp_ne (pc := 33) (tgt := 41) dX12_usual_33 (by decide) (fun hc => ?_) (fun hc => ?_)
      · rw [if_neg hc] at h
        refine aw_iconst (pc := 41) dX12_usual_41 ⟨by decide, by decide⟩ ?_
        exact aw_sel [] rfl (w_m_usual_42 N d  _ _ _ _ h)
      · rw [if_pos hc] at h
        refine aw_bipush (pc := 36) dX12_usual_36 (by decide) ⟨by decide, by decide⟩ ?_
        refine aw_goto (pc := 38) (tgt := 42) dX12_usual_38 (by decide) ?_
        exact aw_sel [] rfl (w_m_usual_42 N d  _ _ _ _ h)
    · rw [if_pos hc] at h
      refine aw_iconst (pc := 27) dX12_usual_27 ⟨by decide, by decide⟩ ?_
      refine aw_goto (pc := 28) (tgt := 42) dX12_usual_28 (by decide) ?_
      exact aw_sel [] rfl (w_m_usual_42 N d  _ _ _ _ h)
  · rw [if_neg hc] at h
    refine aw_iload_n (pc := 4) (q := 1) dX12_usual_4 rfl ?_
    refine aw_if_ne (pc := 5) (tgt := 12) dX12_usual_5 (by decide) (fun hc => ?_) (fun hc => ?_)
    · rw [if_neg hc] at h
      refine aw_iload_n (pc := 12) (q := 1) dX12_usual_12 rfl ?_
      refine aw_iconst (pc := 13) dX12_usual_13 ⟨by decide, by decide⟩ ?_
      refine aw_icmp_ne (pc := 14) (tgt := 21) dX12_usual_14 (by decide) (fun hc => ?_) (fun hc => ?_)
      · rw [if_neg hc] at h
        refine aw_iconst (pc := 21) dX12_usual_21 ⟨by decide, by decide⟩ ?_
        exact aw_sel [] rfl (w_m_usual_22 N d  _ _ _ _ h)
      · rw [if_pos hc] at h
        refine aw_iconst (pc := 17) dX12_usual_17 ⟨by decide, by decide⟩ ?_
        refine aw_goto (pc := 18) (tgt := 22) dX12_usual_18 (by decide) ?_
        exact aw_sel [] rfl (w_m_usual_22 N d  _ _ _ _ h)
    · rw [if_pos hc] at h
      refine aw_iconst (pc := 8) dX12_usual_8 ⟨by decide, by decide⟩ ?_
      refine aw_goto (pc := 9) (tgt := 22) dX12_usual_9 (by decide) ?_
      exact aw_sel [] rfl (w_m_usual_22 N d  _ _ _ _ h)
def m_placeOf_222_27 (N : Nat) (w : aw_W) : Option (Int × aw_W) :=
  some ((-1), w)
theorem w_m_placeOf_222_27 {l : Launch} {K : aw_K} (N d : Nat) (hd : 3 ≤ d) : ∀ (w : aw_W) (y : Int) (v : aw_W), m_placeOf_222_27 N w = some (y, v) → aw_AW l K MX12_placeOf (d + 1) 27 [] [] w (some (.inl y), v) := by
  intro w y v h
  unfold m_placeOf_222_27 at h
  refine aw_iconst (pc := 27) dX12_placeOf_27 ⟨by decide, by decide⟩ ?_
  cases h
  exact aw_iret (pc := 28) rfl dX12_placeOf_28
def m_placeOf_222_19 (N : Nat) (x2 : Int) (w : aw_W) : Option (Int × aw_W) :=
  some (x2, w)
theorem w_m_placeOf_222_19 {l : Launch} {K : aw_K} (N d : Nat) (hd : 3 ≤ d) : ∀ (x2 : Int) (w : aw_W) (y : Int) (v : aw_W), m_placeOf_222_19 N x2 w = some (y, v) → aw_AW l K MX12_placeOf (d + 1) 19 [(2, .inl x2)] [] w (some (.inl y), v) := by
  intro x2 w y v h
  unfold m_placeOf_222_19 at h
  refine aw_iload_n (pc := 19) (q := 0) dX12_placeOf_19 rfl ?_
  cases h
  exact aw_iret (pc := 20) rfl dX12_placeOf_20
def m_placeOf_222_2 (N : Nat) : Nat → Int → Int → aw_W → Option (Int × aw_W)
  | 0, _, _, _ => none
  | n + 1, x1, x2, w =>
    aw_b2 (j_Str_length_222 N w) fun r1 w1 =>
      if r1 ≤ x2 then
        m_placeOf_222_27 N w1
      else
        aw_b2 (j_Str_charAt_222 N x2 w1) fun r2 w2 =>
          if r2 = x1 then
            m_placeOf_222_19 N x2 w2
          else
            m_placeOf_222_2 N n x1 (aw_w (x2 + 1)) w2
theorem w_m_placeOf_222_2 {l : Launch} {K : aw_K} (N d : Nat) (hd : 3 ≤ d) : ∀ (n : Nat) (x1 x2 : Int) (w : aw_W) (y : Int) (v : aw_W), m_placeOf_222_2 N n x1 x2 w = some (y, v) → aw_AW l K MX12_placeOf (d + 1) 2 [(0, .inr (.inr 222)), (1, .inl x1), (2, .inl x2)] [] w (some (.inl y), v) := by
  intro n
  induction n with
  | zero => intro x1 x2 w y v h; rw [m_placeOf_222_2] at h; cases h
  | succ n ih =>
    intro x1 x2 w y v h
    rw [m_placeOf_222_2] at h
    refine aw_iload_n (pc := 2) (q := 2) dX12_placeOf_2 rfl ?_
    refine aw_aload_n (pc := 3) (q := 0) dX12_placeOf_3 rfl ?_
    obtain ⟨r1, w1, h1, h⟩ := aw_b2s h
    refine aw_callT (pc := 4) (k := 2) (as := []) (st := [.inl x2]) (st' := [.inl r1, .inl x2]) dX12_placeOf_4 cv_RX12_102 (by decide) rfl rfl rfl (Nat.le_of_ble_eq_true rfl) (w_j_Str_length_222 N d (by omega) _ _ _ h1) rfl ?_
    refine aw_icmp_ge (pc := 7) (tgt := 27) dX12_placeOf_7 (by decide) (fun hc => ?_) (fun hc => ?_)
    · rw [if_pos hc] at h
      exact aw_sel [] rfl (w_m_placeOf_222_27 N d hd  _ _ _ h)
    · rw [if_neg hc] at h
      refine aw_aload_n (pc := 10) (q := 0) dX12_placeOf_10 rfl ?_
      refine aw_iload_n (pc := 11) (q := 2) dX12_placeOf_11 rfl ?_
      obtain ⟨r2, w2, h2, h⟩ := aw_b2s h
      refine aw_callT (pc := 12) (k := 2) (as := [.inl x2]) (st := []) (st' := [.inl r2]) dX12_placeOf_12 cv_RX12_108 (by decide) rfl rfl rfl (Nat.le_of_ble_eq_true rfl) (w_j_Str_charAt_222 N d (by omega) _ _ _ _ h2) rfl ?_
      refine aw_iload_n (pc := 15) (q := 1) dX12_placeOf_15 rfl ?_
      refine aw_icmp_ne (pc := 16) (tgt := 21) dX12_placeOf_16 (by decide) (fun hc => ?_) (fun hc => ?_)
      · rw [if_neg hc] at h
        refine aw_iinc (pc := 21) (q := 2) (ls' := [(2, .inl (aw_w (x2 + 1))), (0, .inr (.inr 222)), (1, .inl x1)]) dX12_placeOf_21 rfl (by decide) rfl ?_
        refine aw_goto (pc := 24) (tgt := 2) dX12_placeOf_24 (by decide) ?_
        exact aw_sel [1, 2, 0] rfl (ih _ _ _ _ _ h)
      · rw [if_pos hc] at h
        exact aw_sel [2] rfl (w_m_placeOf_222_19 N d hd  _ _ _ _ h)
def m_placeOf_222 (N : Nat) (x1 : Int) (w : aw_W) : Option (Int × aw_W) :=
  m_placeOf_222_2 N N x1 0 w
theorem w_m_placeOf_222_d {l : Launch} {K : aw_K} (N d : Nat) (hd : 3 ≤ d) : ∀ (x1 : Int) (w : aw_W) (y : Int) (v : aw_W), m_placeOf_222 N x1 w = some (y, v) → aw_Met l K MX12_placeOf (d + 1) [.inr (.inr 222), .inl x1] w (some (.inl y), v) := by
  intro x1 w y v h
  unfold m_placeOf_222 at h
  refine aw_enter rfl (Nat.le_of_ble_eq_true rfl) ?_
  show aw_AW l K MX12_placeOf (d + 1) 0 [(0, .inr (.inr 222)), (1, .inl x1)] [] w (some (.inl y), v)
  refine aw_iconst (pc := 0) dX12_placeOf_0 ⟨by decide, by decide⟩ ?_
  refine aw_istore_n (pc := 1) (ls' := [(2, .inl 0), (0, .inr (.inr 222)), (1, .inl x1)]) dX12_placeOf_1 (by decide) rfl ?_
  exact aw_sel [1, 2, 0] rfl (w_m_placeOf_222_2 N d hd  N _ _ _ _ _ h)
theorem w_m_placeOf_222 {l : Launch} {K : aw_K} (N d : Nat) (hd : 4 ≤ d) : ∀ (x1 : Int) (w : aw_W) (y : Int) (v : aw_W), m_placeOf_222 N x1 w = some (y, v) → aw_Met l K MX12_placeOf (d) [.inr (.inr 222), .inl x1] w (some (.inl y), v) := by
  obtain ⟨e, rfl⟩ : ∃ e, d = e + 1 := ⟨d - 1, by omega⟩
  exact w_m_placeOf_222_d N e (by omega)
def m_readItem_49_57_80 (N : Nat) (x1 x2 x4 x6 : Int) (w : aw_W) : Option (aw_W) :=
  aw_b2 (m_isDigit N w) fun r1 w1 =>
    if r1 = 0 then
      aw_b2 (m_leastOf N x1 x2 w1) fun r2 w2 =>
        aw_b2 (m_mostOf N x1 x2 w2) fun r3 w3 =>
          aw_b2 (m_isIn N x6 r2 r3 w3) fun r4 w4 =>
            if r4 = 0 then
              aw_b2 (m_fails N (aw_up w4 49 10 (aw_w ((w4 49 10) - 1)))) fun r5 w5 =>
                some w5
            else
              if 0 ≤ (aw_w (x4 + x2)) ∧ (aw_w (x4 + x2)) < 5 then
                some (aw_up w4 57 ((aw_w (x4 + x2)).toNat) x6)
              else none
    else
      aw_b2 (m_fails N w1) fun r6 w6 =>
        some w6
theorem w_m_readItem_49_57_80 {l : Launch} {K : aw_K} (N d : Nat) (hd : 0 ≤ d) : ∀ (x1 x2 x4 x6 : Int) (w v : aw_W), m_readItem_49_57_80 N x1 x2 x4 x6 w = some v → aw_AW l K MX12_readItem (d + 1) 80 [(0, .inr (.inr 49)), (1, .inl x1), (2, .inl x2), (3, .inr (.inr 57)), (4, .inl x4), (6, .inl x6)] [] w (none, v) := by
  intro x1 x2 x4 x6 w v h
  unfold m_readItem_49_57_80 at h
  refine aw_aload_n (pc := 80) (q := 0) dX12_readItem_80 rfl ?_
  obtain ⟨r1, w1, h1, h⟩ := aw_b2s h
  refine aw_callV (pc := 81) (as := []) (st := []) (st' := [.inl r1]) dX12_readItem_81 cv_RX12_171 (by decide) rfl rfl rfl rfl (Nat.le_of_ble_eq_true rfl) (w_m_isDigit N d (by omega) _ _ _ h1) rfl ?_
  refine aw_if_eq (pc := 84) (tgt := 93) dX12_readItem_84 (by decide) (fun hc => ?_) (fun hc => ?_)
  · rw [if_pos hc] at h
    refine aw_iload (pc := 93) (q := 5) dX12_readItem_93 rfl ?_
    refine aw_i2l (pc := 95) dX12_readItem_95 ?_
    refine aw_iload_n (pc := 96) (q := 1) dX12_readItem_96 rfl ?_
    refine aw_iload_n (pc := 97) (q := 2) dX12_readItem_97 rfl ?_
    obtain ⟨r2, w2, h2, h⟩ := aw_b2s h
    refine aw_callS (pc := 98) (as := [.inl x1, .inl x2]) (st := [.inr (.inl x6)]) (st' := [.inl r2, .inr (.inl x6)]) dX12_readItem_98 cs_RX12_220 rfl rfl (Nat.le_of_ble_eq_true rfl) (w_m_leastOf N d (by omega) _ _ _ _ _ h2) rfl ?_
    refine aw_i2l (pc := 101) dX12_readItem_101 ?_
    refine aw_iload_n (pc := 102) (q := 1) dX12_readItem_102 rfl ?_
    refine aw_iload_n (pc := 103) (q := 2) dX12_readItem_103 rfl ?_
    obtain ⟨r3, w3, h3, h⟩ := aw_b2s h
    refine aw_callS (pc := 104) (as := [.inl x1, .inl x2]) (st := [.inr (.inl r2), .inr (.inl x6)]) (st' := [.inl r3, .inr (.inl r2), .inr (.inl x6)]) dX12_readItem_104 cs_RX12_224 rfl rfl (Nat.le_of_ble_eq_true rfl) (w_m_mostOf N d (by omega) _ _ _ _ _ h3) rfl ?_
    refine aw_i2l (pc := 107) dX12_readItem_107 ?_
    obtain ⟨r4, w4, h4, h⟩ := aw_b2s h
    refine aw_callS (pc := 108) (as := [.inr (.inl x6), .inr (.inl r2), .inr (.inl r3)]) (st := []) (st' := [.inl r4]) dX12_readItem_108 cs_RX12_227 rfl rfl (Nat.le_of_ble_eq_true rfl) (w_m_isIn N d (by omega) _ _ _ _ _ _ h4) rfl ?_
    refine aw_if_ne (pc := 111) (tgt := 130) dX12_readItem_111 (by decide) (fun hc => ?_) (fun hc => ?_)
    · rw [if_neg hc] at h
      refine aw_aload_n (pc := 130) (q := 3) dX12_readItem_130 rfl ?_
      refine aw_iload (pc := 131) (q := 4) dX12_readItem_131 rfl ?_
      refine aw_iload_n (pc := 133) (q := 2) dX12_readItem_133 rfl ?_
      refine aw_iadd (pc := 134) dX12_readItem_134 ?_
      refine aw_iload (pc := 135) (q := 5) dX12_readItem_135 rfl ?_
      obtain ⟨hb, h⟩ := aw_cks h
      refine aw_iast (pc := 137) dX12_readItem_137 rfl hb.1 hb.2 ?_
      cases h
      exact aw_vret (pc := 138) rfl dX12_readItem_138
    · rw [if_pos hc] at h
      refine aw_aload_n (pc := 114) (q := 0) dX12_readItem_114 rfl ?_
      refine aw_dup (pc := 115) dX12_readItem_115 rfl ?_
      refine aw_getf (pc := 116) (v := .inl (w4 49 10)) dX12_readItem_116 fl_RX12_122 (by decide) rfl rfl rfl ?_
      refine aw_iconst (pc := 119) dX12_readItem_119 ⟨by decide, by decide⟩ ?_
      refine aw_isub (pc := 120) dX12_readItem_120 ?_
      refine aw_puti (pc := 121) dX12_readItem_121 fp_RX12_122 (by decide) rfl rfl ?_
      refine aw_aload_n (pc := 124) (q := 0) dX12_readItem_124 rfl ?_
      obtain ⟨r5, w5, h5, h⟩ := aw_b2s h
      refine aw_callV (pc := 125) (as := []) (st := []) (st' := [.inl r5]) dX12_readItem_125 cv_RX12_137 (by decide) rfl rfl rfl rfl (Nat.le_of_ble_eq_true rfl) (w_m_fails N d (by omega) _ _ _ h5) rfl ?_
      refine aw_pop (pc := 128) dX12_readItem_128 rfl ?_
      cases h
      exact aw_vret (pc := 129) rfl dX12_readItem_129
  · rw [if_neg hc] at h
    refine aw_aload_n (pc := 87) (q := 0) dX12_readItem_87 rfl ?_
    obtain ⟨r6, w6, h6, h⟩ := aw_b2s h
    refine aw_callV (pc := 88) (as := []) (st := []) (st' := [.inl r6]) dX12_readItem_88 cv_RX12_137 (by decide) rfl rfl rfl rfl (Nat.le_of_ble_eq_true rfl) (w_m_fails N d (by omega) _ _ _ h6) rfl ?_
    refine aw_pop (pc := 91) dX12_readItem_91 rfl ?_
    cases h
    exact aw_vret (pc := 92) rfl dX12_readItem_92
def m_readItem_49_57 (N : Nat) (x1 x2 x4 : Int) (w : aw_W) : Option (aw_W) :=
  aw_b2 (m_look N (aw_up w 49 10 (aw_w ((w 49 10) + 1)))) fun r1 w1 =>
    aw_b2 (m_isDigit N w1) fun r2 w2 =>
      if r2 = 0 then
        aw_b2 (m_fails N w2) fun r6 w6 =>
          some w6
      else
        aw_b2 (m_here N w2) fun r3 w3 =>
          aw_b2 (m_isDigit N (aw_up w3 49 10 (aw_w ((w3 49 10) + 1)))) fun r4 w4 =>
            if r4 = 0 then
              m_readItem_49_57_80 N x1 x2 x4 (aw_w (r3 - 48)) w4
            else
              aw_b2 (m_here N w4) fun r5 w5 =>
                m_readItem_49_57_80 N x1 x2 x4 (aw_w ((aw_w ((aw_w (10 * (aw_w (r3 - 48)))) + r5)) - 48)) (aw_up w5 49 10 (aw_w ((w5 49 10) + 1)))
theorem w_m_readItem_49_57_d {l : Launch} {K : aw_K} (N d : Nat) (hd : 0 ≤ d) : ∀ (x1 x2 x4 : Int) (w v : aw_W), m_readItem_49_57 N x1 x2 x4 w = some v → aw_Met l K MX12_readItem (d + 1) [.inr (.inr 49), .inl x1, .inl x2, .inr (.inr 57), .inl x4] w (none, v) := by
  intro x1 x2 x4 w v h
  unfold m_readItem_49_57 at h
  refine aw_enter rfl (Nat.le_of_ble_eq_true rfl) ?_
  show aw_AW l K MX12_readItem (d + 1) 0 [(0, .inr (.inr 49)), (1, .inl x1), (2, .inl x2), (3, .inr (.inr 57)), (4, .inl x4)] [] w (none, v)
  refine aw_aload_n (pc := 0) (q := 0) dX12_readItem_0 rfl ?_
  refine aw_dup (pc := 1) dX12_readItem_1 rfl ?_
  refine aw_getf (pc := 2) (v := .inl (w 49 10)) dX12_readItem_2 fl_RX12_122 (by decide) rfl rfl rfl ?_
  refine aw_iconst (pc := 5) dX12_readItem_5 ⟨by decide, by decide⟩ ?_
  refine aw_iadd (pc := 6) dX12_readItem_6 ?_
  refine aw_puti (pc := 7) dX12_readItem_7 fp_RX12_122 (by decide) rfl rfl ?_
  refine aw_aload_n (pc := 10) (q := 0) dX12_readItem_10 rfl ?_
  obtain ⟨r1, w1, h1, h⟩ := aw_b2s h
  refine aw_callV (pc := 11) (as := []) (st := []) (st' := [.inl r1]) dX12_readItem_11 cv_RX12_141 (by decide) rfl rfl rfl rfl (Nat.le_of_ble_eq_true rfl) (w_m_look N d (by omega) _ _ _ h1) rfl ?_
  refine aw_istore (pc := 14) (ls' := [(5, .inl r1), (0, .inr (.inr 49)), (1, .inl x1), (2, .inl x2), (3, .inr (.inr 57)), (4, .inl x4)]) dX12_readItem_14 (by decide) rfl ?_
  refine aw_aload_n (pc := 16) (q := 1) dX12_readItem_16 rfl ?_
  obtain ⟨r2, w2, h2, h⟩ := aw_b2s h
  refine aw_callV (pc := 17) (as := []) (st := []) (st' := [.inl r2]) dX12_readItem_17 cv_RX12_171 (by decide) rfl rfl rfl rfl (Nat.le_of_ble_eq_true rfl) (w_m_isDigit N d (by omega) _ _ _ h2) rfl ?_
  refine aw_if_ne (pc := 20) (tgt := 29) dX12_readItem_20 (by decide) (fun hc => ?_) (fun hc => ?_)
  · rw [if_neg hc] at h
    refine aw_aload_n (pc := 29) (q := 1) dX12_readItem_29 rfl ?_
    obtain ⟨r3, w3, h3, h⟩ := aw_b2s h
    refine aw_callV (pc := 30) (as := []) (st := []) (st' := [.inl r3]) dX12_readItem_30 cv_RX12_217 (by decide) rfl rfl rfl rfl (Nat.le_of_ble_eq_true rfl) (w_m_here N d (by omega) _ _ _ h3) rfl ?_
    refine aw_bipush (pc := 33) dX12_readItem_33 (by decide) ⟨by decide, by decide⟩ ?_
    refine aw_isub (pc := 35) dX12_readItem_35 ?_
    refine aw_istore (pc := 36) (ls' := [(6, .inl (aw_w (r3 - 48))), (5, .inl r1), (0, .inr (.inr 49)), (1, .inl x1), (2, .inl x2), (3, .inr (.inr 57)), (4, .inl x4)]) dX12_readItem_36 (by decide) rfl ?_
    refine aw_aload_n (pc := 38) (q := 2) dX12_readItem_38 rfl ?_
    refine aw_dup (pc := 39) dX12_readItem_39 rfl ?_
    refine aw_getf (pc := 40) (v := .inl (w3 49 10)) dX12_readItem_40 fl_RX12_122 (by decide) rfl rfl rfl ?_
    refine aw_iconst (pc := 43) dX12_readItem_43 ⟨by decide, by decide⟩ ?_
    refine aw_iadd (pc := 44) dX12_readItem_44 ?_
    refine aw_puti (pc := 45) dX12_readItem_45 fp_RX12_122 (by decide) rfl rfl ?_
    refine aw_aload_n (pc := 48) (q := 2) dX12_readItem_48 rfl ?_
    obtain ⟨r4, w4, h4, h⟩ := aw_b2s h
    refine aw_callV (pc := 49) (as := []) (st := []) (st' := [.inl r4]) dX12_readItem_49 cv_RX12_171 (by decide) rfl rfl rfl rfl (Nat.le_of_ble_eq_true rfl) (w_m_isDigit N d (by omega) _ _ _ h4) rfl ?_
    refine aw_if_eq (pc := 52) (tgt := 80) dX12_readItem_52 (by decide) (fun hc => ?_) (fun hc => ?_)
    · rw [if_pos hc] at h
      exact aw_sel [2, 3, 4, 5, 6, 0] rfl (w_m_readItem_49_57_80 N d hd  _ _ _ _ _ _ h)
    · rw [if_neg hc] at h
      refine aw_bipush (pc := 55) dX12_readItem_55 (by decide) ⟨by decide, by decide⟩ ?_
      refine aw_iload (pc := 57) (q := 0) dX12_readItem_57 rfl ?_
      refine aw_imul (pc := 59) dX12_readItem_59 ?_
      refine aw_aload_n (pc := 60) (q := 2) dX12_readItem_60 rfl ?_
      obtain ⟨r5, w5, h5, h⟩ := aw_b2s h
      refine aw_callV (pc := 61) (as := []) (st := [.inl (aw_w (10 * (aw_w (r3 - 48))))]) (st' := [.inl r5, .inl (aw_w (10 * (aw_w (r3 - 48))))]) dX12_readItem_61 cv_RX12_217 (by decide) rfl rfl rfl rfl (Nat.le_of_ble_eq_true rfl) (w_m_here N d (by omega) _ _ _ h5) rfl ?_
      refine aw_iadd (pc := 64) dX12_readItem_64 ?_
      refine aw_bipush (pc := 65) dX12_readItem_65 (by decide) ⟨by decide, by decide⟩ ?_
      refine aw_isub (pc := 67) dX12_readItem_67 ?_
      refine aw_istore (pc := 68) (ls' := [(6, .inl (aw_w ((aw_w ((aw_w (10 * (aw_w (r3 - 48)))) + r5)) - 48))), (5, .inl r1), (0, .inr (.inr 49)), (1, .inl x1), (2, .inl x2), (3, .inr (.inr 57)), (4, .inl x4)]) dX12_readItem_68 (by decide) rfl ?_
      refine aw_aload_n (pc := 70) (q := 2) dX12_readItem_70 rfl ?_
      refine aw_dup (pc := 71) dX12_readItem_71 rfl ?_
      refine aw_getf (pc := 72) (v := .inl (w5 49 10)) dX12_readItem_72 fl_RX12_122 (by decide) rfl rfl rfl ?_
      refine aw_iconst (pc := 75) dX12_readItem_75 ⟨by decide, by decide⟩ ?_
      refine aw_iadd (pc := 76) dX12_readItem_76 ?_
      refine aw_puti (pc := 77) dX12_readItem_77 fp_RX12_122 (by decide) rfl rfl ?_
      exact aw_sel [2, 3, 4, 5, 6, 0] rfl (w_m_readItem_49_57_80 N d hd  _ _ _ _ _ _ h)
  · rw [if_pos hc] at h
    refine aw_aload_n (pc := 23) (q := 1) dX12_readItem_23 rfl ?_
    obtain ⟨r6, w6, h6, h⟩ := aw_b2s h
    refine aw_callV (pc := 24) (as := []) (st := []) (st' := [.inl r6]) dX12_readItem_24 cv_RX12_137 (by decide) rfl rfl rfl rfl (Nat.le_of_ble_eq_true rfl) (w_m_fails N d (by omega) _ _ _ h6) rfl ?_
    refine aw_pop (pc := 27) dX12_readItem_27 rfl ?_
    cases h
    exact aw_vret (pc := 28) rfl dX12_readItem_28
theorem w_m_readItem_49_57 {l : Launch} {K : aw_K} (N d : Nat) (hd : 1 ≤ d) : ∀ (x1 x2 x4 : Int) (w v : aw_W), m_readItem_49_57 N x1 x2 x4 w = some v → aw_Met l K MX12_readItem (d) [.inr (.inr 49), .inl x1, .inl x2, .inr (.inr 57), .inl x4] w (none, v) := by
  obtain ⟨e, rfl⟩ : ∃ e, d = e + 1 := ⟨d - 1, by omega⟩
  exact w_m_readItem_49_57_d N e (by omega)
theorem dX12_readClause_0 : decode cX12_readClause 0 = .ok (.aload_n 0, 1) := by decide +kernel
theorem dX12_readClause_1 : decode cX12_readClause 1 = .ok (.invokevirtual 141, 3) := by decide +kernel
theorem dX12_readClause_4 : decode cX12_readClause 4 = .ok (.istore_n 1, 1) := by decide +kernel
theorem dX12_readClause_5 : decode cX12_readClause 5 = .ok (.iload_n 1, 1) := by decide +kernel
theorem dX12_readClause_6 : decode cX12_readClause 6 = .ok (.bipush 108, 2) := by decide +kernel
theorem dX12_readClause_8 : decode cX12_readClause 8 = .ok (.if_icmp .ne 7, 3) := by decide +kernel
theorem dX12_readClause_11 : decode cX12_readClause 11 = .ok (.iconst 1, 1) := by decide +kernel
theorem dX12_readClause_12 : decode cX12_readClause 12 = .ok (.goto 4, 3) := by decide +kernel
theorem dX12_readClause_15 : decode cX12_readClause 15 = .ok (.iconst 0, 1) := by decide +kernel
theorem dX12_readClause_16 : decode cX12_readClause 16 = .ok (.istore_n 2, 1) := by decide +kernel
theorem dX12_readClause_17 : decode cX12_readClause 17 = .ok (.iload_n 2, 1) := by decide +kernel
theorem dX12_readClause_18 : decode cX12_readClause 18 = .ok (.ifCond .ne 9, 3) := by decide +kernel
theorem dX12_readClause_21 : decode cX12_readClause 21 = .ok (.iload_n 1, 1) := by decide +kernel
theorem dX12_readClause_22 : decode cX12_readClause 22 = .ok (.bipush 115, 2) := by decide +kernel
theorem dX12_readClause_24 : decode cX12_readClause 24 = .ok (.if_icmp .ne 29, 3) := by decide +kernel
theorem dX12_readClause_27 : decode cX12_readClause 27 = .ok (.iload_n 2, 1) := by decide +kernel
theorem dX12_readClause_28 : decode cX12_readClause 28 = .ok (.ifCond .eq 10, 3) := by decide +kernel
theorem dX12_readClause_31 : decode cX12_readClause 31 = .ok (.aload_n 0, 1) := by decide +kernel
theorem dX12_readClause_32 : decode cX12_readClause 32 = .ok (.getfield 231, 3) := by decide +kernel
theorem dX12_readClause_35 : decode cX12_readClause 35 = .ok (.ifCond .ne 18, 3) := by decide +kernel
theorem dX12_readClause_38 : decode cX12_readClause 38 = .ok (.iload_n 1, 1) := by decide +kernel
theorem dX12_readClause_39 : decode cX12_readClause 39 = .ok (.bipush 115, 2) := by decide +kernel
theorem dX12_readClause_41 : decode cX12_readClause 41 = .ok (.if_icmp .ne 18, 3) := by decide +kernel
theorem dX12_readClause_44 : decode cX12_readClause 44 = .ok (.aload_n 0, 1) := by decide +kernel
theorem dX12_readClause_45 : decode cX12_readClause 45 = .ok (.getfield 234, 3) := by decide +kernel
theorem dX12_readClause_48 : decode cX12_readClause 48 = .ok (.bipush 6, 2) := by decide +kernel
theorem dX12_readClause_50 : decode cX12_readClause 50 = .ok (.if_icmp .ne 9, 3) := by decide +kernel
theorem dX12_readClause_53 : decode cX12_readClause 53 = .ok (.aload_n 0, 1) := by decide +kernel
theorem dX12_readClause_54 : decode cX12_readClause 54 = .ok (.invokevirtual 137, 3) := by decide +kernel
theorem dX12_readClause_57 : decode cX12_readClause 57 = .ok (.pop, 1) := by decide +kernel
theorem dX12_readClause_58 : decode cX12_readClause 58 = .ok (.return_, 1) := by decide +kernel
theorem dX12_readClause_59 : decode cX12_readClause 59 = .ok (.aload_n 0, 1) := by decide +kernel
theorem dX12_readClause_60 : decode cX12_readClause 60 = .ok (.dup, 1) := by decide +kernel
theorem dX12_readClause_61 : decode cX12_readClause 61 = .ok (.getfield 122, 3) := by decide +kernel
theorem dX12_readClause_64 : decode cX12_readClause 64 = .ok (.iconst 1, 1) := by decide +kernel
theorem dX12_readClause_65 : decode cX12_readClause 65 = .ok (.iadd, 1) := by decide +kernel
theorem dX12_readClause_66 : decode cX12_readClause 66 = .ok (.putfield 122, 3) := by decide +kernel
theorem dX12_readClause_69 : decode cX12_readClause 69 = .ok (.iload_n 2, 1) := by decide +kernel
theorem dX12_readClause_70 : decode cX12_readClause 70 = .ok (.ifCond .eq 7, 3) := by decide +kernel
theorem dX12_readClause_73 : decode cX12_readClause 73 = .ok (.iconst 0, 1) := by decide +kernel
theorem dX12_readClause_74 : decode cX12_readClause 74 = .ok (.goto 9, 3) := by decide +kernel
theorem dX12_readClause_77 : decode cX12_readClause 77 = .ok (.iconst 4, 1) := by decide +kernel
theorem dX12_readClause_78 : decode cX12_readClause 78 = .ok (.aload_n 0, 1) := by decide +kernel
theorem dX12_readClause_79 : decode cX12_readClause 79 = .ok (.getfield 234, 3) := by decide +kernel
theorem dX12_readClause_82 : decode cX12_readClause 82 = .ok (.imul, 1) := by decide +kernel
theorem dX12_readClause_83 : decode cX12_readClause 83 = .ok (.istore_n 3, 1) := by decide +kernel
theorem dX12_readClause_84 : decode cX12_readClause 84 = .ok (.iload_n 2, 1) := by decide +kernel
theorem dX12_readClause_85 : decode cX12_readClause 85 = .ok (.ifCond .eq 11, 3) := by decide +kernel
theorem dX12_readClause_88 : decode cX12_readClause 88 = .ok (.aload_n 0, 1) := by decide +kernel
theorem dX12_readClause_89 : decode cX12_readClause 89 = .ok (.iconst 1, 1) := by decide +kernel
theorem dX12_readClause_90 : decode cX12_readClause 90 = .ok (.putfield 231, 3) := by decide +kernel
theorem dX12_readClause_93 : decode cX12_readClause 93 = .ok (.goto 13, 3) := by decide +kernel
theorem dX12_readClause_96 : decode cX12_readClause 96 = .ok (.aload_n 0, 1) := by decide +kernel
theorem dX12_readClause_97 : decode cX12_readClause 97 = .ok (.dup, 1) := by decide +kernel
theorem dX12_readClause_98 : decode cX12_readClause 98 = .ok (.getfield 234, 3) := by decide +kernel
theorem dX12_readClause_101 : decode cX12_readClause 101 = .ok (.iconst 1, 1) := by decide +kernel
theorem dX12_readClause_102 : decode cX12_readClause 102 = .ok (.iadd, 1) := by decide +kernel
theorem dX12_readClause_103 : decode cX12_readClause 103 = .ok (.putfield 234, 3) := by decide +kernel
theorem dX12_readClause_106 : decode cX12_readClause 106 = .ok (.iload_n 2, 1) := by decide +kernel
theorem dX12_readClause_107 : decode cX12_readClause 107 = .ok (.ifCond .eq 10, 3) := by decide +kernel
theorem dX12_readClause_110 : decode cX12_readClause 110 = .ok (.aload_n 0, 1) := by decide +kernel
theorem dX12_readClause_111 : decode cX12_readClause 111 = .ok (.getfield 46, 3) := by decide +kernel
theorem dX12_readClause_114 : decode cX12_readClause 114 = .ok (.goto 7, 3) := by decide +kernel
theorem dX12_readClause_117 : decode cX12_readClause 117 = .ok (.aload_n 0, 1) := by decide +kernel
theorem dX12_readClause_118 : decode cX12_readClause 118 = .ok (.getfield 40, 3) := by decide +kernel
theorem dX12_readClause_121 : decode cX12_readClause 121 = .ok (.astore 4, 2) := by decide +kernel
theorem dX12_readClause_123 : decode cX12_readClause 123 = .ok (.iload_n 2, 1) := by decide +kernel
theorem dX12_readClause_124 : decode cX12_readClause 124 = .ok (.ifCond .eq 8, 3) := by decide +kernel
theorem dX12_readClause_127 : decode cX12_readClause 127 = .ok (.ldc 237, 2) := by decide +kernel
theorem dX12_readClause_129 : decode cX12_readClause 129 = .ok (.goto 5, 3) := by decide +kernel
theorem dX12_readClause_132 : decode cX12_readClause 132 = .ok (.ldc 239, 2) := by decide +kernel
theorem dX12_readClause_134 : decode cX12_readClause 134 = .ok (.astore 5, 2) := by decide +kernel
theorem dX12_readClause_136 : decode cX12_readClause 136 = .ok (.iconst 0, 1) := by decide +kernel
theorem dX12_readClause_137 : decode cX12_readClause 137 = .ok (.istore 6, 2) := by decide +kernel
theorem dX12_readClause_139 : decode cX12_readClause 139 = .ok (.iload 6, 2) := by decide +kernel
theorem dX12_readClause_141 : decode cX12_readClause 141 = .ok (.aload 5, 2) := by decide +kernel
theorem dX12_readClause_143 : decode cX12_readClause 143 = .ok (.invokevirtual 102, 3) := by decide +kernel
theorem dX12_readClause_146 : decode cX12_readClause 146 = .ok (.if_icmp .ge 22, 3) := by decide +kernel
theorem dX12_readClause_149 : decode cX12_readClause 149 = .ok (.aload 4, 2) := by decide +kernel
theorem dX12_readClause_151 : decode cX12_readClause 151 = .ok (.iload_n 3, 1) := by decide +kernel
theorem dX12_readClause_152 : decode cX12_readClause 152 = .ok (.iload 6, 2) := by decide +kernel
theorem dX12_readClause_154 : decode cX12_readClause 154 = .ok (.iadd, 1) := by decide +kernel
theorem dX12_readClause_155 : decode cX12_readClause 155 = .ok (.iload_n 2, 1) := by decide +kernel
theorem dX12_readClause_156 : decode cX12_readClause 156 = .ok (.iload 6, 2) := by decide +kernel
theorem dX12_readClause_158 : decode cX12_readClause 158 = .ok (.invokestatic 241, 3) := by decide +kernel
theorem dX12_readClause_161 : decode cX12_readClause 161 = .ok (.iastore, 1) := by decide +kernel
theorem dX12_readClause_162 : decode cX12_readClause 162 = .ok (.iinc 6 1, 3) := by decide +kernel
theorem dX12_readClause_165 : decode cX12_readClause 165 = .ok (.goto (-26), 3) := by decide +kernel
theorem dX12_readClause_168 : decode cX12_readClause 168 = .ok (.iconst 0, 1) := by decide +kernel
theorem dX12_readClause_169 : decode cX12_readClause 169 = .ok (.istore 6, 2) := by decide +kernel
theorem dX12_readClause_171 : decode cX12_readClause 171 = .ok (.aload 5, 2) := by decide +kernel
theorem dX12_readClause_173 : decode cX12_readClause 173 = .ok (.aload_n 0, 1) := by decide +kernel
theorem dX12_readClause_174 : decode cX12_readClause 174 = .ok (.invokevirtual 141, 3) := by decide +kernel
theorem dX12_readClause_177 : decode cX12_readClause 177 = .ok (.invokestatic 244, 3) := by decide +kernel
theorem dX12_readClause_180 : decode cX12_readClause 180 = .ok (.istore 7, 2) := by decide +kernel
theorem dX12_readClause_182 : decode cX12_readClause 182 = .ok (.iload 7, 2) := by decide +kernel
theorem dX12_readClause_184 : decode cX12_readClause 184 = .ok (.iconst (-1), 1) := by decide +kernel
theorem dX12_readClause_185 : decode cX12_readClause 185 = .ok (.if_icmp .eq 68, 3) := by decide +kernel
theorem dX12_readClause_188 : decode cX12_readClause 188 = .ok (.aload_n 0, 1) := by decide +kernel
theorem dX12_readClause_189 : decode cX12_readClause 189 = .ok (.getfield 131, 3) := by decide +kernel
theorem dX12_readClause_192 : decode cX12_readClause 192 = .ok (.iconst (-1), 1) := by decide +kernel
theorem dX12_readClause_193 : decode cX12_readClause 193 = .ok (.if_icmp .ne 60, 3) := by decide +kernel
theorem dX12_readClause_196 : decode cX12_readClause 196 = .ok (.iload 6, 2) := by decide +kernel
theorem dX12_readClause_198 : decode cX12_readClause 198 = .ok (.iload 7, 2) := by decide +kernel
theorem dX12_readClause_200 : decode cX12_readClause 200 = .ok (.invokestatic 248, 3) := by decide +kernel
theorem dX12_readClause_203 : decode cX12_readClause 203 = .ok (.ifCond .eq 9, 3) := by decide +kernel
theorem dX12_readClause_206 : decode cX12_readClause 206 = .ok (.aload_n 0, 1) := by decide +kernel
theorem dX12_readClause_207 : decode cX12_readClause 207 = .ok (.invokevirtual 137, 3) := by decide +kernel
theorem dX12_readClause_210 : decode cX12_readClause 210 = .ok (.pop, 1) := by decide +kernel
theorem dX12_readClause_211 : decode cX12_readClause 211 = .ok (.return_, 1) := by decide +kernel
theorem dX12_readClause_212 : decode cX12_readClause 212 = .ok (.iload 6, 2) := by decide +kernel
theorem dX12_readClause_214 : decode cX12_readClause 214 = .ok (.iconst 1, 1) := by decide +kernel
theorem dX12_readClause_215 : decode cX12_readClause 215 = .ok (.iload 7, 2) := by decide +kernel
theorem dX12_readClause_217 : decode cX12_readClause 217 = .ok (.ishl, 1) := by decide +kernel
theorem dX12_readClause_218 : decode cX12_readClause 218 = .ok (.ior, 1) := by decide +kernel
theorem dX12_readClause_219 : decode cX12_readClause 219 = .ok (.istore 6, 2) := by decide +kernel
theorem dX12_readClause_221 : decode cX12_readClause 221 = .ok (.aload_n 0, 1) := by decide +kernel
theorem dX12_readClause_222 : decode cX12_readClause 222 = .ok (.iload_n 2, 1) := by decide +kernel
theorem dX12_readClause_223 : decode cX12_readClause 223 = .ok (.iload 7, 2) := by decide +kernel
theorem dX12_readClause_225 : decode cX12_readClause 225 = .ok (.aload 4, 2) := by decide +kernel
theorem dX12_readClause_227 : decode cX12_readClause 227 = .ok (.iload_n 3, 1) := by decide +kernel
theorem dX12_readClause_228 : decode cX12_readClause 228 = .ok (.invokevirtual 252, 3) := by decide +kernel
theorem dX12_readClause_231 : decode cX12_readClause 231 = .ok (.aload_n 0, 1) := by decide +kernel
theorem dX12_readClause_232 : decode cX12_readClause 232 = .ok (.getfield 131, 3) := by decide +kernel
theorem dX12_readClause_235 : decode cX12_readClause 235 = .ok (.iconst (-1), 1) := by decide +kernel
theorem dX12_readClause_236 : decode cX12_readClause 236 = .ok (.if_icmp .ne (-54), 3) := by decide +kernel
theorem dX12_readClause_239 : decode cX12_readClause 239 = .ok (.aload 5, 2) := by decide +kernel
theorem dX12_readClause_241 : decode cX12_readClause 241 = .ok (.aload_n 0, 1) := by decide +kernel
theorem dX12_readClause_242 : decode cX12_readClause 242 = .ok (.invokevirtual 141, 3) := by decide +kernel
theorem dX12_readClause_245 : decode cX12_readClause 245 = .ok (.invokestatic 244, 3) := by decide +kernel
theorem dX12_readClause_248 : decode cX12_readClause 248 = .ok (.istore 7, 2) := by decide +kernel
theorem dX12_readClause_250 : decode cX12_readClause 250 = .ok (.goto (-68), 3) := by decide +kernel
theorem dX12_readClause_253 : decode cX12_readClause 253 = .ok (.return_, 1) := by decide +kernel
def m_readClause_253 (N : Nat) (w : aw_W) : Option (aw_W) :=
  some w
theorem w_m_readClause_253 {l : Launch} {K : aw_K} (N d : Nat) (hd : 4 ≤ d) : ∀ (w v : aw_W), m_readClause_253 N w = some v → aw_AW l K MX12_readClause (d + 1) 253 [] [] w (none, v) := by
  intro w v h
  unfold m_readClause_253 at h
  cases h
  exact aw_vret (pc := 253) rfl dX12_readClause_253
def m_readClause_206 (N : Nat) (w : aw_W) : Option (aw_W) :=
  aw_b2 (m_fails N w) fun r1 w1 =>
    some w1
theorem w_m_readClause_206 {l : Launch} {K : aw_K} (N d : Nat) (hd : 4 ≤ d) : ∀ (w v : aw_W), m_readClause_206 N w = some v → aw_AW l K MX12_readClause (d + 1) 206 [(0, .inr (.inr 49))] [] w (none, v) := by
  intro w v h
  unfold m_readClause_206 at h
  refine aw_aload_n (pc := 206) (q := 0) dX12_readClause_206 rfl ?_
  obtain ⟨r1, w1, h1, h⟩ := aw_b2s h
  refine aw_callV (pc := 207) (as := []) (st := []) (st' := [.inl r1]) dX12_readClause_207 cv_RX12_137 (by decide) rfl rfl rfl rfl (Nat.le_of_ble_eq_true rfl) (w_m_fails N d (by omega) _ _ _ h1) rfl ?_
  refine aw_pop (pc := 210) dX12_readClause_210 rfl ?_
  cases h
  exact aw_vret (pc := 211) rfl dX12_readClause_211
def m_readClause_182 (N : Nat) : Nat → Int → Int → Int → Int → aw_W → Option (aw_W)
  | 0, _, _, _, _, _ => none
  | n + 1, x2, x3, x6, x7, w =>
    if x7 = (-1) then
      m_readClause_253 N w
    else
      if (w 49 11) = (-1) then
        aw_b2 (m_has N x6 x7 w) fun r1 w1 =>
          if r1 = 0 then
            aw_b1 (m_readItem N x2 x7 x3 w1) fun w2 =>
              if (w2 49 11) = (-1) then
                aw_b2 (m_look N w2) fun r3 w3 =>
                  aw_b2 (m_placeOf N r3 w3) fun r4 w4 =>
                    m_readClause_182 N n x2 x3 (aw_or x6 (aw_shl 1 x7)) r4 w4
              else
                m_readClause_182 N n x2 x3 (aw_or x6 (aw_shl 1 x7)) x7 w2
          else
            m_readClause_206 N w1
      else
        m_readClause_253 N w
theorem w_m_readClause_182 {l : Launch} {K : aw_K} (N d : Nat) (hd : 4 ≤ d) : ∀ (n : Nat) (x2 x3 x6 x7 : Int) (w v : aw_W), m_readClause_182 N n x2 x3 x6 x7 w = some v → aw_AW l K MX12_readClause (d + 1) 182 [(0, .inr (.inr 49)), (2, .inl x2), (3, .inl x3), (4, .inr (.inr 55)), (5, .inr (.inr 223)), (6, .inl x6), (7, .inl x7)] [] w (none, v) := by
  intro n
  induction n with
  | zero => intro x2 x3 x6 x7 w v h; rw [m_readClause_182] at h; cases h
  | succ n ih =>
    intro x2 x3 x6 x7 w v h
    rw [m_readClause_182] at h
    refine aw_iload (pc := 182) (q := 6) dX12_readClause_182 rfl ?_
    refine aw_iconst (pc := 184) dX12_readClause_184 ⟨by decide, by decide⟩ ?_
    refine aw_icmp_eq (pc := 185) (tgt := 253) dX12_readClause_185 (by decide) (fun hc => ?_) (fun hc => ?_)
    · rw [if_pos hc] at h
      exact aw_sel [] rfl (w_m_readClause_253 N d hd  _ _ h)
    · rw [if_neg hc] at h
      refine aw_aload_n (pc := 188) (q := 0) dX12_readClause_188 rfl ?_
      refine aw_getf (pc := 189) (v := .inl (w 49 11)) dX12_readClause_189 fl_RX12_131 (by decide) rfl rfl rfl ?_
      refine aw_iconst (pc := 192) dX12_readClause_192 ⟨by decide, by decide⟩ ?_
      refine aw_icmp_ne (pc := 193) (tgt := 253) dX12_readClause_193 (by decide) (fun hc => ?_) (fun hc => ?_)
      · rw [if_neg hc] at h
        exact aw_sel [] rfl (w_m_readClause_253 N d hd  _ _ h)
      · rw [if_pos hc] at h
        refine aw_iload (pc := 196) (q := 5) dX12_readClause_196 rfl ?_
        refine aw_iload (pc := 198) (q := 6) dX12_readClause_198 rfl ?_
        obtain ⟨r1, w1, h1, h⟩ := aw_b2s h
        refine aw_callS (pc := 200) (as := [.inl x6, .inl x7]) (st := []) (st' := [.inl r1]) dX12_readClause_200 cs_RX12_248 rfl rfl (Nat.le_of_ble_eq_true rfl) (w_m_has N d (by omega) _ _ _ _ _ h1) rfl ?_
        refine aw_if_eq (pc := 203) (tgt := 212) dX12_readClause_203 (by decide) (fun hc => ?_) (fun hc => ?_)
        · rw [if_pos hc] at h
          refine aw_iload (pc := 212) (q := 5) dX12_readClause_212 rfl ?_
          refine aw_iconst (pc := 214) dX12_readClause_214 ⟨by decide, by decide⟩ ?_
          refine aw_iload (pc := 215) (q := 6) dX12_readClause_215 rfl ?_
          refine aw_ishl (pc := 217) dX12_readClause_217 ?_
          refine aw_ior (pc := 218) dX12_readClause_218 ?_
          refine aw_istore (pc := 219) (ls' := [(6, .inl (aw_or x6 (aw_shl 1 x7))), (0, .inr (.inr 49)), (2, .inl x2), (3, .inl x3), (4, .inr (.inr 55)), (5, .inr (.inr 223)), (7, .inl x7)]) dX12_readClause_219 (by decide) rfl ?_
          refine aw_aload_n (pc := 221) (q := 1) dX12_readClause_221 rfl ?_
          refine aw_iload_n (pc := 222) (q := 2) dX12_readClause_222 rfl ?_
          refine aw_iload (pc := 223) (q := 6) dX12_readClause_223 rfl ?_
          refine aw_aload (pc := 225) (q := 4) dX12_readClause_225 rfl ?_
          refine aw_iload_n (pc := 227) (q := 3) dX12_readClause_227 rfl ?_
          obtain ⟨w2, h2, h⟩ := aw_b1s h
          refine aw_callV (pc := 228) (as := [.inl x2, .inl x7, .inr (.inr 55), .inl x3]) (st := []) (st' := []) dX12_readClause_228 cv_RX12_252 (by decide) rfl rfl rfl rfl (Nat.le_of_ble_eq_true rfl) (w_m_readItem N d (by omega) _ _ _ _ _ h2) rfl ?_
          refine aw_aload_n (pc := 231) (q := 1) dX12_readClause_231 rfl ?_
          refine aw_getf (pc := 232) (v := .inl (w2 49 11)) dX12_readClause_232 fl_RX12_131 (by decide) rfl rfl rfl ?_
          refine aw_iconst (pc := 235) dX12_readClause_235 ⟨by decide, by decide⟩ ?_
          refine aw_icmp_ne (pc := 236) (tgt := 182) dX12_readClause_236 (by decide) (fun hc => ?_) (fun hc => ?_)
          · rw [if_neg hc] at h
            exact aw_sel [1, 2, 3, 4, 5, 0, 6] rfl (ih _ _ _ _ _ _ h)
          · rw [if_pos hc] at h
            refine aw_aload (pc := 239) (q := 5) dX12_readClause_239 rfl ?_
            refine aw_aload_n (pc := 241) (q := 1) dX12_readClause_241 rfl ?_
            obtain ⟨r3, w3, h3, h⟩ := aw_b2s h
            refine aw_callV (pc := 242) (as := []) (st := [.inr (.inr 223)]) (st' := [.inl r3, .inr (.inr 223)]) dX12_readClause_242 cv_RX12_141 (by decide) rfl rfl rfl rfl (Nat.le_of_ble_eq_true rfl) (w_m_look N d (by omega) _ _ _ h3) rfl ?_
            obtain ⟨r4, w4, h4, h⟩ := aw_b2s h
            refine aw_callS (pc := 245) (as := [.inr (.inr 223), .inl r3]) (st := []) (st' := [.inl r4]) dX12_readClause_245 cs_RX12_244 rfl rfl (Nat.le_of_ble_eq_true rfl) (w_m_placeOf N d (by omega) _ _ _ _ h4) rfl ?_
            refine aw_istore (pc := 248) (ls' := [(7, .inl r4), (6, .inl (aw_or x6 (aw_shl 1 x7))), (0, .inr (.inr 49)), (2, .inl x2), (3, .inl x3), (4, .inr (.inr 55)), (5, .inr (.inr 223))]) dX12_readClause_248 (by decide) rfl ?_
            refine aw_goto (pc := 250) (tgt := 182) dX12_readClause_250 (by decide) ?_
            exact aw_sel [2, 3, 4, 5, 6, 1, 0] rfl (ih _ _ _ _ _ _ h)
        · rw [if_neg hc] at h
          exact aw_sel [0] rfl (w_m_readClause_206 N d hd  _ _ h)
def m_readClause_168 (N : Nat) (x2 x3 : Int) (w : aw_W) : Option (aw_W) :=
  aw_b2 (m_look N w) fun r1 w1 =>
    aw_b2 (m_placeOf N r1 w1) fun r2 w2 =>
      m_readClause_182 N N x2 x3 0 r2 w2
theorem w_m_readClause_168 {l : Launch} {K : aw_K} (N d : Nat) (hd : 4 ≤ d) : ∀ (x2 x3 : Int) (w v : aw_W), m_readClause_168 N x2 x3 w = some v → aw_AW l K MX12_readClause (d + 1) 168 [(0, .inr (.inr 49)), (2, .inl x2), (3, .inl x3), (4, .inr (.inr 55)), (5, .inr (.inr 223))] [] w (none, v) := by
  intro x2 x3 w v h
  unfold m_readClause_168 at h
  refine aw_iconst (pc := 168) dX12_readClause_168 ⟨by decide, by decide⟩ ?_
  refine aw_istore (pc := 169) (ls' := [(6, .inl 0), (0, .inr (.inr 49)), (2, .inl x2), (3, .inl x3), (4, .inr (.inr 55)), (5, .inr (.inr 223))]) dX12_readClause_169 (by decide) rfl ?_
  refine aw_aload (pc := 171) (q := 5) dX12_readClause_171 rfl ?_
  refine aw_aload_n (pc := 173) (q := 1) dX12_readClause_173 rfl ?_
  obtain ⟨r1, w1, h1, h⟩ := aw_b2s h
  refine aw_callV (pc := 174) (as := []) (st := [.inr (.inr 223)]) (st' := [.inl r1, .inr (.inr 223)]) dX12_readClause_174 cv_RX12_141 (by decide) rfl rfl rfl rfl (Nat.le_of_ble_eq_true rfl) (w_m_look N d (by omega) _ _ _ h1) rfl ?_
  obtain ⟨r2, w2, h2, h⟩ := aw_b2s h
  refine aw_callS (pc := 177) (as := [.inr (.inr 223), .inl r1]) (st := []) (st' := [.inl r2]) dX12_readClause_177 cs_RX12_244 rfl rfl (Nat.le_of_ble_eq_true rfl) (w_m_placeOf N d (by omega) _ _ _ _ h2) rfl ?_
  refine aw_istore (pc := 180) (ls' := [(7, .inl r2), (6, .inl 0), (0, .inr (.inr 49)), (2, .inl x2), (3, .inl x3), (4, .inr (.inr 55)), (5, .inr (.inr 223))]) dX12_readClause_180 (by decide) rfl ?_
  exact aw_sel [2, 3, 4, 5, 6, 1, 0] rfl (w_m_readClause_182 N d hd  N _ _ _ _ _ _ h)
def m_readClause_139 (N : Nat) : Nat → Int → Int → Int → aw_W → Option (aw_W)
  | 0, _, _, _, _ => none
  | n + 1, x2, x3, x6, w =>
    aw_b2 (j_Str_length_223 N w) fun r1 w1 =>
      if r1 ≤ x6 then
        m_readClause_168 N x2 x3 w1
      else
        aw_b2 (m_usual N x2 x6 w1) fun r2 w2 =>
          if 0 ≤ (aw_w (x3 + x6)) ∧ (aw_w (x3 + x6)) < 24 then
            m_readClause_139 N n x2 x3 (aw_w (x6 + 1)) (aw_up w2 55 ((aw_w (x3 + x6)).toNat) r2)
          else none
theorem w_m_readClause_139 {l : Launch} {K : aw_K} (N d : Nat) (hd : 4 ≤ d) : ∀ (n : Nat) (x2 x3 x6 : Int) (w v : aw_W), m_readClause_139 N n x2 x3 x6 w = some v → aw_AW l K MX12_readClause (d + 1) 139 [(0, .inr (.inr 49)), (2, .inl x2), (3, .inl x3), (4, .inr (.inr 55)), (5, .inr (.inr 223)), (6, .inl x6)] [] w (none, v) := by
  intro n
  induction n with
  | zero => intro x2 x3 x6 w v h; rw [m_readClause_139] at h; cases h
  | succ n ih =>
    intro x2 x3 x6 w v h
    rw [m_readClause_139] at h
    refine aw_iload (pc := 139) (q := 5) dX12_readClause_139 rfl ?_
    refine aw_aload (pc := 141) (q := 4) dX12_readClause_141 rfl ?_
    obtain ⟨r1, w1, h1, h⟩ := aw_b2s h
    refine aw_callT (pc := 143) (k := 3) (as := []) (st := [.inl x6]) (st' := [.inl r1, .inl x6]) dX12_readClause_143 cv_RX12_102 (by decide) rfl rfl rfl (Nat.le_of_ble_eq_true rfl) (w_j_Str_length_223 N d (by omega) _ _ _ h1) rfl ?_
    refine aw_icmp_ge (pc := 146) (tgt := 168) dX12_readClause_146 (by decide) (fun hc => ?_) (fun hc => ?_)
    · rw [if_pos hc] at h
      exact aw_sel [0, 1, 2, 3, 4] rfl (w_m_readClause_168 N d hd  _ _ _ _ h)
    · rw [if_neg hc] at h
      refine aw_aload (pc := 149) (q := 3) dX12_readClause_149 rfl ?_
      refine aw_iload_n (pc := 151) (q := 2) dX12_readClause_151 rfl ?_
      refine aw_iload (pc := 152) (q := 5) dX12_readClause_152 rfl ?_
      refine aw_iadd (pc := 154) dX12_readClause_154 ?_
      refine aw_iload_n (pc := 155) (q := 1) dX12_readClause_155 rfl ?_
      refine aw_iload (pc := 156) (q := 5) dX12_readClause_156 rfl ?_
      obtain ⟨r2, w2, h2, h⟩ := aw_b2s h
      refine aw_callS (pc := 158) (as := [.inl x2, .inl x6]) (st := [.inl (aw_w (x3 + x6)), .inr (.inr 55)]) (st' := [.inl r2, .inl (aw_w (x3 + x6)), .inr (.inr 55)]) dX12_readClause_158 cs_RX12_241 rfl rfl (Nat.le_of_ble_eq_true rfl) (w_m_usual N d (by omega) _ _ _ _ _ h2) rfl ?_
      obtain ⟨hb, h⟩ := aw_cks h
      refine aw_iast (pc := 161) dX12_readClause_161 rfl hb.1 hb.2 ?_
      refine aw_iinc (pc := 162) (q := 5) (ls' := [(6, .inl (aw_w (x6 + 1))), (0, .inr (.inr 49)), (2, .inl x2), (3, .inl x3), (4, .inr (.inr 55)), (5, .inr (.inr 223))]) dX12_readClause_162 rfl (by decide) rfl ?_
      refine aw_goto (pc := 165) (tgt := 139) dX12_readClause_165 (by decide) ?_
      exact aw_sel [1, 2, 3, 4, 5, 0] rfl (ih _ _ _ _ _ h)
def m_readClause_134 (N : Nat) (x2 x3 : Int) (w : aw_W) : Option (aw_W) :=
  m_readClause_139 N N x2 x3 0 w
theorem w_m_readClause_134 {l : Launch} {K : aw_K} (N d : Nat) (hd : 4 ≤ d) : ∀ (x2 x3 : Int) (w v : aw_W), m_readClause_134 N x2 x3 w = some v → aw_AW l K MX12_readClause (d + 1) 134 [(0, .inr (.inr 49)), (2, .inl x2), (3, .inl x3), (4, .inr (.inr 55))] [.inr (.inr 223)] w (none, v) := by
  intro x2 x3 w v h
  unfold m_readClause_134 at h
  refine aw_astore (pc := 134) (ls' := [(5, .inr (.inr 223)), (0, .inr (.inr 49)), (2, .inl x2), (3, .inl x3), (4, .inr (.inr 55))]) dX12_readClause_134 (by decide) rfl ?_
  refine aw_iconst (pc := 136) dX12_readClause_136 ⟨by decide, by decide⟩ ?_
  refine aw_istore (pc := 137) (ls' := [(6, .inl 0), (5, .inr (.inr 223)), (0, .inr (.inr 49)), (2, .inl x2), (3, .inl x3), (4, .inr (.inr 55))]) dX12_readClause_137 (by decide) rfl ?_
  exact aw_sel [2, 3, 4, 5, 1, 0] rfl (w_m_readClause_139 N d hd  N _ _ _ _ _ h)
def m_readClause_182b (N : Nat) : Nat → Int → Int → Int → Int → aw_W → Option (aw_W)
  | 0, _, _, _, _, _ => none
  | n + 1, x2, x3, x6, x7, w =>
    if x7 = (-1) then
      m_readClause_253 N w
    else
      if (w 49 11) = (-1) then
        aw_b2 (m_has N x6 x7 w) fun r1 w1 =>
          if r1 = 0 then
            aw_b1 (m_readItem N x2 x7 x3 w1) fun w2 =>
              if (w2 49 11) = (-1) then
                aw_b2 (m_look N w2) fun r3 w3 =>
                  aw_b2 (m_placeOf_222 N r3 w3) fun r4 w4 =>
                    m_readClause_182b N n x2 x3 (aw_or x6 (aw_shl 1 x7)) r4 w4
              else
                m_readClause_182b N n x2 x3 (aw_or x6 (aw_shl 1 x7)) x7 w2
          else
            m_readClause_206 N w1
      else
        m_readClause_253 N w
theorem w_m_readClause_182b {l : Launch} {K : aw_K} (N d : Nat) (hd : 4 ≤ d) : ∀ (n : Nat) (x2 x3 x6 x7 : Int) (w v : aw_W), m_readClause_182b N n x2 x3 x6 x7 w = some v → aw_AW l K MX12_readClause (d + 1) 182 [(0, .inr (.inr 49)), (2, .inl x2), (3, .inl x3), (4, .inr (.inr 55)), (5, .inr (.inr 222)), (6, .inl x6), (7, .inl x7)] [] w (none, v) := by
  intro n
  induction n with
  | zero => intro x2 x3 x6 x7 w v h; rw [m_readClause_182b] at h; cases h
  | succ n ih =>
    intro x2 x3 x6 x7 w v h
    rw [m_readClause_182b] at h
    refine aw_iload (pc := 182) (q := 6) dX12_readClause_182 rfl ?_
    refine aw_iconst (pc := 184) dX12_readClause_184 ⟨by decide, by decide⟩ ?_
    refine aw_icmp_eq (pc := 185) (tgt := 253) dX12_readClause_185 (by decide) (fun hc => ?_) (fun hc => ?_)
    · rw [if_pos hc] at h
      exact aw_sel [] rfl (w_m_readClause_253 N d hd  _ _ h)
    · rw [if_neg hc] at h
      refine aw_aload_n (pc := 188) (q := 0) dX12_readClause_188 rfl ?_
      refine aw_getf (pc := 189) (v := .inl (w 49 11)) dX12_readClause_189 fl_RX12_131 (by decide) rfl rfl rfl ?_
      refine aw_iconst (pc := 192) dX12_readClause_192 ⟨by decide, by decide⟩ ?_
      refine aw_icmp_ne (pc := 193) (tgt := 253) dX12_readClause_193 (by decide) (fun hc => ?_) (fun hc => ?_)
      · rw [if_neg hc] at h
        exact aw_sel [] rfl (w_m_readClause_253 N d hd  _ _ h)
      · rw [if_pos hc] at h
        refine aw_iload (pc := 196) (q := 5) dX12_readClause_196 rfl ?_
        refine aw_iload (pc := 198) (q := 6) dX12_readClause_198 rfl ?_
        obtain ⟨r1, w1, h1, h⟩ := aw_b2s h
        refine aw_callS (pc := 200) (as := [.inl x6, .inl x7]) (st := []) (st' := [.inl r1]) dX12_readClause_200 cs_RX12_248 rfl rfl (Nat.le_of_ble_eq_true rfl) (w_m_has N d (by omega) _ _ _ _ _ h1) rfl ?_
        refine aw_if_eq (pc := 203) (tgt := 212) dX12_readClause_203 (by decide) (fun hc => ?_) (fun hc => ?_)
        · rw [if_pos hc] at h
          refine aw_iload (pc := 212) (q := 5) dX12_readClause_212 rfl ?_
          refine aw_iconst (pc := 214) dX12_readClause_214 ⟨by decide, by decide⟩ ?_
          refine aw_iload (pc := 215) (q := 6) dX12_readClause_215 rfl ?_
          refine aw_ishl (pc := 217) dX12_readClause_217 ?_
          refine aw_ior (pc := 218) dX12_readClause_218 ?_
          refine aw_istore (pc := 219) (ls' := [(6, .inl (aw_or x6 (aw_shl 1 x7))), (0, .inr (.inr 49)), (2, .inl x2), (3, .inl x3), (4, .inr (.inr 55)), (5, .inr (.inr 222)), (7, .inl x7)]) dX12_readClause_219 (by decide) rfl ?_
          refine aw_aload_n (pc := 221) (q := 1) dX12_readClause_221 rfl ?_
          refine aw_iload_n (pc := 222) (q := 2) dX12_readClause_222 rfl ?_
          refine aw_iload (pc := 223) (q := 6) dX12_readClause_223 rfl ?_
          refine aw_aload (pc := 225) (q := 4) dX12_readClause_225 rfl ?_
          refine aw_iload_n (pc := 227) (q := 3) dX12_readClause_227 rfl ?_
          obtain ⟨w2, h2, h⟩ := aw_b1s h
          refine aw_callV (pc := 228) (as := [.inl x2, .inl x7, .inr (.inr 55), .inl x3]) (st := []) (st' := []) dX12_readClause_228 cv_RX12_252 (by decide) rfl rfl rfl rfl (Nat.le_of_ble_eq_true rfl) (w_m_readItem N d (by omega) _ _ _ _ _ h2) rfl ?_
          refine aw_aload_n (pc := 231) (q := 1) dX12_readClause_231 rfl ?_
          refine aw_getf (pc := 232) (v := .inl (w2 49 11)) dX12_readClause_232 fl_RX12_131 (by decide) rfl rfl rfl ?_
          refine aw_iconst (pc := 235) dX12_readClause_235 ⟨by decide, by decide⟩ ?_
          refine aw_icmp_ne (pc := 236) (tgt := 182) dX12_readClause_236 (by decide) (fun hc => ?_) (fun hc => ?_)
          · rw [if_neg hc] at h
            exact aw_sel [1, 2, 3, 4, 5, 0, 6] rfl (ih _ _ _ _ _ _ h)
          · rw [if_pos hc] at h
            refine aw_aload (pc := 239) (q := 5) dX12_readClause_239 rfl ?_
            refine aw_aload_n (pc := 241) (q := 1) dX12_readClause_241 rfl ?_
            obtain ⟨r3, w3, h3, h⟩ := aw_b2s h
            refine aw_callV (pc := 242) (as := []) (st := [.inr (.inr 222)]) (st' := [.inl r3, .inr (.inr 222)]) dX12_readClause_242 cv_RX12_141 (by decide) rfl rfl rfl rfl (Nat.le_of_ble_eq_true rfl) (w_m_look N d (by omega) _ _ _ h3) rfl ?_
            obtain ⟨r4, w4, h4, h⟩ := aw_b2s h
            refine aw_callS (pc := 245) (as := [.inr (.inr 222), .inl r3]) (st := []) (st' := [.inl r4]) dX12_readClause_245 cs_RX12_244 rfl rfl (Nat.le_of_ble_eq_true rfl) (w_m_placeOf_222 N d (by omega) _ _ _ _ h4) rfl ?_
            refine aw_istore (pc := 248) (ls' := [(7, .inl r4), (6, .inl (aw_or x6 (aw_shl 1 x7))), (0, .inr (.inr 49)), (2, .inl x2), (3, .inl x3), (4, .inr (.inr 55)), (5, .inr (.inr 222))]) dX12_readClause_248 (by decide) rfl ?_
            refine aw_goto (pc := 250) (tgt := 182) dX12_readClause_250 (by decide) ?_
            exact aw_sel [2, 3, 4, 5, 6, 1, 0] rfl (ih _ _ _ _ _ _ h)
        · rw [if_neg hc] at h
          exact aw_sel [0] rfl (w_m_readClause_206 N d hd  _ _ h)
def m_readClause_168b (N : Nat) (x2 x3 : Int) (w : aw_W) : Option (aw_W) :=
  aw_b2 (m_look N w) fun r1 w1 =>
    aw_b2 (m_placeOf_222 N r1 w1) fun r2 w2 =>
      m_readClause_182b N N x2 x3 0 r2 w2
theorem w_m_readClause_168b {l : Launch} {K : aw_K} (N d : Nat) (hd : 4 ≤ d) : ∀ (x2 x3 : Int) (w v : aw_W), m_readClause_168b N x2 x3 w = some v → aw_AW l K MX12_readClause (d + 1) 168 [(0, .inr (.inr 49)), (2, .inl x2), (3, .inl x3), (4, .inr (.inr 55)), (5, .inr (.inr 222))] [] w (none, v) := by
  intro x2 x3 w v h
  unfold m_readClause_168b at h
  refine aw_iconst (pc := 168) dX12_readClause_168 ⟨by decide, by decide⟩ ?_
  refine aw_istore (pc := 169) (ls' := [(6, .inl 0), (0, .inr (.inr 49)), (2, .inl x2), (3, .inl x3), (4, .inr (.inr 55)), (5, .inr (.inr 222))]) dX12_readClause_169 (by decide) rfl ?_
  refine aw_aload (pc := 171) (q := 5) dX12_readClause_171 rfl ?_
  refine aw_aload_n (pc := 173) (q := 1) dX12_readClause_173 rfl ?_
  obtain ⟨r1, w1, h1, h⟩ := aw_b2s h
  refine aw_callV (pc := 174) (as := []) (st := [.inr (.inr 222)]) (st' := [.inl r1, .inr (.inr 222)]) dX12_readClause_174 cv_RX12_141 (by decide) rfl rfl rfl rfl (Nat.le_of_ble_eq_true rfl) (w_m_look N d (by omega) _ _ _ h1) rfl ?_
  obtain ⟨r2, w2, h2, h⟩ := aw_b2s h
  refine aw_callS (pc := 177) (as := [.inr (.inr 222), .inl r1]) (st := []) (st' := [.inl r2]) dX12_readClause_177 cs_RX12_244 rfl rfl (Nat.le_of_ble_eq_true rfl) (w_m_placeOf_222 N d (by omega) _ _ _ _ h2) rfl ?_
  refine aw_istore (pc := 180) (ls' := [(7, .inl r2), (6, .inl 0), (0, .inr (.inr 49)), (2, .inl x2), (3, .inl x3), (4, .inr (.inr 55)), (5, .inr (.inr 222))]) dX12_readClause_180 (by decide) rfl ?_
  exact aw_sel [2, 3, 4, 5, 6, 1, 0] rfl (w_m_readClause_182b N d hd  N _ _ _ _ _ _ h)
def m_readClause_139b (N : Nat) : Nat → Int → Int → Int → aw_W → Option (aw_W)
  | 0, _, _, _, _ => none
  | n + 1, x2, x3, x6, w =>
    aw_b2 (j_Str_length_222 N w) fun r1 w1 =>
      if r1 ≤ x6 then
        m_readClause_168b N x2 x3 w1
      else
        aw_b2 (m_usual N x2 x6 w1) fun r2 w2 =>
          if 0 ≤ (aw_w (x3 + x6)) ∧ (aw_w (x3 + x6)) < 24 then
            m_readClause_139b N n x2 x3 (aw_w (x6 + 1)) (aw_up w2 55 ((aw_w (x3 + x6)).toNat) r2)
          else none
theorem w_m_readClause_139b {l : Launch} {K : aw_K} (N d : Nat) (hd : 4 ≤ d) : ∀ (n : Nat) (x2 x3 x6 : Int) (w v : aw_W), m_readClause_139b N n x2 x3 x6 w = some v → aw_AW l K MX12_readClause (d + 1) 139 [(0, .inr (.inr 49)), (2, .inl x2), (3, .inl x3), (4, .inr (.inr 55)), (5, .inr (.inr 222)), (6, .inl x6)] [] w (none, v) := by
  intro n
  induction n with
  | zero => intro x2 x3 x6 w v h; rw [m_readClause_139b] at h; cases h
  | succ n ih =>
    intro x2 x3 x6 w v h
    rw [m_readClause_139b] at h
    refine aw_iload (pc := 139) (q := 5) dX12_readClause_139 rfl ?_
    refine aw_aload (pc := 141) (q := 4) dX12_readClause_141 rfl ?_
    obtain ⟨r1, w1, h1, h⟩ := aw_b2s h
    refine aw_callT (pc := 143) (k := 2) (as := []) (st := [.inl x6]) (st' := [.inl r1, .inl x6]) dX12_readClause_143 cv_RX12_102 (by decide) rfl rfl rfl (Nat.le_of_ble_eq_true rfl) (w_j_Str_length_222 N d (by omega) _ _ _ h1) rfl ?_
    refine aw_icmp_ge (pc := 146) (tgt := 168) dX12_readClause_146 (by decide) (fun hc => ?_) (fun hc => ?_)
    · rw [if_pos hc] at h
      exact aw_sel [0, 1, 2, 3, 4] rfl (w_m_readClause_168b N d hd  _ _ _ _ h)
    · rw [if_neg hc] at h
      refine aw_aload (pc := 149) (q := 3) dX12_readClause_149 rfl ?_
      refine aw_iload_n (pc := 151) (q := 2) dX12_readClause_151 rfl ?_
      refine aw_iload (pc := 152) (q := 5) dX12_readClause_152 rfl ?_
      refine aw_iadd (pc := 154) dX12_readClause_154 ?_
      refine aw_iload_n (pc := 155) (q := 1) dX12_readClause_155 rfl ?_
      refine aw_iload (pc := 156) (q := 5) dX12_readClause_156 rfl ?_
      obtain ⟨r2, w2, h2, h⟩ := aw_b2s h
      refine aw_callS (pc := 158) (as := [.inl x2, .inl x6]) (st := [.inl (aw_w (x3 + x6)), .inr (.inr 55)]) (st' := [.inl r2, .inl (aw_w (x3 + x6)), .inr (.inr 55)]) dX12_readClause_158 cs_RX12_241 rfl rfl (Nat.le_of_ble_eq_true rfl) (w_m_usual N d (by omega) _ _ _ _ _ h2) rfl ?_
      obtain ⟨hb, h⟩ := aw_cks h
      refine aw_iast (pc := 161) dX12_readClause_161 rfl hb.1 hb.2 ?_
      refine aw_iinc (pc := 162) (q := 5) (ls' := [(6, .inl (aw_w (x6 + 1))), (0, .inr (.inr 49)), (2, .inl x2), (3, .inl x3), (4, .inr (.inr 55)), (5, .inr (.inr 222))]) dX12_readClause_162 rfl (by decide) rfl ?_
      refine aw_goto (pc := 165) (tgt := 139) dX12_readClause_165 (by decide) ?_
      exact aw_sel [1, 2, 3, 4, 5, 0] rfl (ih _ _ _ _ _ h)
def m_readClause_134b (N : Nat) (x2 x3 : Int) (w : aw_W) : Option (aw_W) :=
  m_readClause_139b N N x2 x3 0 w
theorem w_m_readClause_134b {l : Launch} {K : aw_K} (N d : Nat) (hd : 4 ≤ d) : ∀ (x2 x3 : Int) (w v : aw_W), m_readClause_134b N x2 x3 w = some v → aw_AW l K MX12_readClause (d + 1) 134 [(0, .inr (.inr 49)), (2, .inl x2), (3, .inl x3), (4, .inr (.inr 55))] [.inr (.inr 222)] w (none, v) := by
  intro x2 x3 w v h
  unfold m_readClause_134b at h
  refine aw_astore (pc := 134) (ls' := [(5, .inr (.inr 222)), (0, .inr (.inr 49)), (2, .inl x2), (3, .inl x3), (4, .inr (.inr 55))]) dX12_readClause_134 (by decide) rfl ?_
  refine aw_iconst (pc := 136) dX12_readClause_136 ⟨by decide, by decide⟩ ?_
  refine aw_istore (pc := 137) (ls' := [(6, .inl 0), (5, .inr (.inr 222)), (0, .inr (.inr 49)), (2, .inl x2), (3, .inl x3), (4, .inr (.inr 55))]) dX12_readClause_137 (by decide) rfl ?_
  exact aw_sel [2, 3, 4, 5, 1, 0] rfl (w_m_readClause_139b N d hd  N _ _ _ _ _ h)
def m_readClause_121 (N : Nat) (x2 x3 : Int) (w : aw_W) : Option (aw_W) :=
  if x2 = 0 then
    m_readClause_134 N x2 x3 w
  else
    m_readClause_134b N x2 x3 w
theorem w_m_readClause_121 {l : Launch} {K : aw_K} (N d : Nat) (hd : 4 ≤ d) : ∀ (x2 x3 : Int) (w v : aw_W), m_readClause_121 N x2 x3 w = some v → aw_AW l K MX12_readClause (d + 1) 121 [(0, .inr (.inr 49)), (2, .inl x2), (3, .inl x3)] [.inr (.inr 55)] w (none, v) := by
  intro x2 x3 w v h
  unfold m_readClause_121 at h
  refine aw_astore (pc := 121) (ls' := [(4, .inr (.inr 55)), (0, .inr (.inr 49)), (2, .inl x2), (3, .inl x3)]) dX12_readClause_121 (by decide) rfl ?_
  refine aw_iload_n (pc := 123) (q := 2) dX12_readClause_123 rfl ?_
  refine aw_if_eq (pc := 124) (tgt := 132) dX12_readClause_124 (by decide) (fun hc => ?_) (fun hc => ?_)
  · rw [if_pos hc] at h
    refine aw_ldcs3 (pc := 132) dX12_readClause_132 ?_
    exact aw_sel [1, 2, 3, 0] rfl (w_m_readClause_134 N d hd  _ _ _ _ h)
  · rw [if_neg hc] at h
    refine aw_ldcs2 (pc := 127) dX12_readClause_127 ?_
    refine aw_goto (pc := 129) (tgt := 134) dX12_readClause_129 (by decide) ?_
    exact aw_sel [1, 2, 3, 0] rfl (w_m_readClause_134b N d hd  _ _ _ _ h)
def m_readClause_182c (N : Nat) : Nat → Int → Int → Int → Int → aw_W → Option (aw_W)
  | 0, _, _, _, _, _ => none
  | n + 1, x2, x3, x6, x7, w =>
    if x7 = (-1) then
      m_readClause_253 N w
    else
      if (w 49 11) = (-1) then
        aw_b2 (m_has N x6 x7 w) fun r1 w1 =>
          if r1 = 0 then
            aw_b1 (m_readItem_49_57 N x2 x7 x3 w1) fun w2 =>
              if (w2 49 11) = (-1) then
                aw_b2 (m_look N w2) fun r3 w3 =>
                  aw_b2 (m_placeOf N r3 w3) fun r4 w4 =>
                    m_readClause_182c N n x2 x3 (aw_or x6 (aw_shl 1 x7)) r4 w4
              else
                m_readClause_182c N n x2 x3 (aw_or x6 (aw_shl 1 x7)) x7 w2
          else
            m_readClause_206 N w1
      else
        m_readClause_253 N w
theorem w_m_readClause_182c {l : Launch} {K : aw_K} (N d : Nat) (hd : 4 ≤ d) : ∀ (n : Nat) (x2 x3 x6 x7 : Int) (w v : aw_W), m_readClause_182c N n x2 x3 x6 x7 w = some v → aw_AW l K MX12_readClause (d + 1) 182 [(0, .inr (.inr 49)), (2, .inl x2), (3, .inl x3), (4, .inr (.inr 57)), (5, .inr (.inr 223)), (6, .inl x6), (7, .inl x7)] [] w (none, v) := by
  intro n
  induction n with
  | zero => intro x2 x3 x6 x7 w v h; rw [m_readClause_182c] at h; cases h
  | succ n ih =>
    intro x2 x3 x6 x7 w v h
    rw [m_readClause_182c] at h
    refine aw_iload (pc := 182) (q := 6) dX12_readClause_182 rfl ?_
    refine aw_iconst (pc := 184) dX12_readClause_184 ⟨by decide, by decide⟩ ?_
    refine aw_icmp_eq (pc := 185) (tgt := 253) dX12_readClause_185 (by decide) (fun hc => ?_) (fun hc => ?_)
    · rw [if_pos hc] at h
      exact aw_sel [] rfl (w_m_readClause_253 N d hd  _ _ h)
    · rw [if_neg hc] at h
      refine aw_aload_n (pc := 188) (q := 0) dX12_readClause_188 rfl ?_
      refine aw_getf (pc := 189) (v := .inl (w 49 11)) dX12_readClause_189 fl_RX12_131 (by decide) rfl rfl rfl ?_
      refine aw_iconst (pc := 192) dX12_readClause_192 ⟨by decide, by decide⟩ ?_
      refine aw_icmp_ne (pc := 193) (tgt := 253) dX12_readClause_193 (by decide) (fun hc => ?_) (fun hc => ?_)
      · rw [if_neg hc] at h
        exact aw_sel [] rfl (w_m_readClause_253 N d hd  _ _ h)
      · rw [if_pos hc] at h
        refine aw_iload (pc := 196) (q := 5) dX12_readClause_196 rfl ?_
        refine aw_iload (pc := 198) (q := 6) dX12_readClause_198 rfl ?_
        obtain ⟨r1, w1, h1, h⟩ := aw_b2s h
        refine aw_callS (pc := 200) (as := [.inl x6, .inl x7]) (st := []) (st' := [.inl r1]) dX12_readClause_200 cs_RX12_248 rfl rfl (Nat.le_of_ble_eq_true rfl) (w_m_has N d (by omega) _ _ _ _ _ h1) rfl ?_
        refine aw_if_eq (pc := 203) (tgt := 212) dX12_readClause_203 (by decide) (fun hc => ?_) (fun hc => ?_)
        · rw [if_pos hc] at h
          refine aw_iload (pc := 212) (q := 5) dX12_readClause_212 rfl ?_
          refine aw_iconst (pc := 214) dX12_readClause_214 ⟨by decide, by decide⟩ ?_
          refine aw_iload (pc := 215) (q := 6) dX12_readClause_215 rfl ?_
          refine aw_ishl (pc := 217) dX12_readClause_217 ?_
          refine aw_ior (pc := 218) dX12_readClause_218 ?_
          refine aw_istore (pc := 219) (ls' := [(6, .inl (aw_or x6 (aw_shl 1 x7))), (0, .inr (.inr 49)), (2, .inl x2), (3, .inl x3), (4, .inr (.inr 57)), (5, .inr (.inr 223)), (7, .inl x7)]) dX12_readClause_219 (by decide) rfl ?_
          refine aw_aload_n (pc := 221) (q := 1) dX12_readClause_221 rfl ?_
          refine aw_iload_n (pc := 222) (q := 2) dX12_readClause_222 rfl ?_
          refine aw_iload (pc := 223) (q := 6) dX12_readClause_223 rfl ?_
          refine aw_aload (pc := 225) (q := 4) dX12_readClause_225 rfl ?_
          refine aw_iload_n (pc := 227) (q := 3) dX12_readClause_227 rfl ?_
          obtain ⟨w2, h2, h⟩ := aw_b1s h
          refine aw_callV (pc := 228) (as := [.inl x2, .inl x7, .inr (.inr 57), .inl x3]) (st := []) (st' := []) dX12_readClause_228 cv_RX12_252 (by decide) rfl rfl rfl rfl (Nat.le_of_ble_eq_true rfl) (w_m_readItem_49_57 N d (by omega) _ _ _ _ _ h2) rfl ?_
          refine aw_aload_n (pc := 231) (q := 1) dX12_readClause_231 rfl ?_
          refine aw_getf (pc := 232) (v := .inl (w2 49 11)) dX12_readClause_232 fl_RX12_131 (by decide) rfl rfl rfl ?_
          refine aw_iconst (pc := 235) dX12_readClause_235 ⟨by decide, by decide⟩ ?_
          refine aw_icmp_ne (pc := 236) (tgt := 182) dX12_readClause_236 (by decide) (fun hc => ?_) (fun hc => ?_)
          · rw [if_neg hc] at h
            exact aw_sel [1, 2, 3, 4, 5, 0, 6] rfl (ih _ _ _ _ _ _ h)
          · rw [if_pos hc] at h
            refine aw_aload (pc := 239) (q := 5) dX12_readClause_239 rfl ?_
            refine aw_aload_n (pc := 241) (q := 1) dX12_readClause_241 rfl ?_
            obtain ⟨r3, w3, h3, h⟩ := aw_b2s h
            refine aw_callV (pc := 242) (as := []) (st := [.inr (.inr 223)]) (st' := [.inl r3, .inr (.inr 223)]) dX12_readClause_242 cv_RX12_141 (by decide) rfl rfl rfl rfl (Nat.le_of_ble_eq_true rfl) (w_m_look N d (by omega) _ _ _ h3) rfl ?_
            obtain ⟨r4, w4, h4, h⟩ := aw_b2s h
            refine aw_callS (pc := 245) (as := [.inr (.inr 223), .inl r3]) (st := []) (st' := [.inl r4]) dX12_readClause_245 cs_RX12_244 rfl rfl (Nat.le_of_ble_eq_true rfl) (w_m_placeOf N d (by omega) _ _ _ _ h4) rfl ?_
            refine aw_istore (pc := 248) (ls' := [(7, .inl r4), (6, .inl (aw_or x6 (aw_shl 1 x7))), (0, .inr (.inr 49)), (2, .inl x2), (3, .inl x3), (4, .inr (.inr 57)), (5, .inr (.inr 223))]) dX12_readClause_248 (by decide) rfl ?_
            refine aw_goto (pc := 250) (tgt := 182) dX12_readClause_250 (by decide) ?_
            exact aw_sel [2, 3, 4, 5, 6, 1, 0] rfl (ih _ _ _ _ _ _ h)
        · rw [if_neg hc] at h
          exact aw_sel [0] rfl (w_m_readClause_206 N d hd  _ _ h)
def m_readClause_168c (N : Nat) (x2 x3 : Int) (w : aw_W) : Option (aw_W) :=
  aw_b2 (m_look N w) fun r1 w1 =>
    aw_b2 (m_placeOf N r1 w1) fun r2 w2 =>
      m_readClause_182c N N x2 x3 0 r2 w2
theorem w_m_readClause_168c {l : Launch} {K : aw_K} (N d : Nat) (hd : 4 ≤ d) : ∀ (x2 x3 : Int) (w v : aw_W), m_readClause_168c N x2 x3 w = some v → aw_AW l K MX12_readClause (d + 1) 168 [(0, .inr (.inr 49)), (2, .inl x2), (3, .inl x3), (4, .inr (.inr 57)), (5, .inr (.inr 223))] [] w (none, v) := by
  intro x2 x3 w v h
  unfold m_readClause_168c at h
  refine aw_iconst (pc := 168) dX12_readClause_168 ⟨by decide, by decide⟩ ?_
  refine aw_istore (pc := 169) (ls' := [(6, .inl 0), (0, .inr (.inr 49)), (2, .inl x2), (3, .inl x3), (4, .inr (.inr 57)), (5, .inr (.inr 223))]) dX12_readClause_169 (by decide) rfl ?_
  refine aw_aload (pc := 171) (q := 5) dX12_readClause_171 rfl ?_
  refine aw_aload_n (pc := 173) (q := 1) dX12_readClause_173 rfl ?_
  obtain ⟨r1, w1, h1, h⟩ := aw_b2s h
  refine aw_callV (pc := 174) (as := []) (st := [.inr (.inr 223)]) (st' := [.inl r1, .inr (.inr 223)]) dX12_readClause_174 cv_RX12_141 (by decide) rfl rfl rfl rfl (Nat.le_of_ble_eq_true rfl) (w_m_look N d (by omega) _ _ _ h1) rfl ?_
  obtain ⟨r2, w2, h2, h⟩ := aw_b2s h
  refine aw_callS (pc := 177) (as := [.inr (.inr 223), .inl r1]) (st := []) (st' := [.inl r2]) dX12_readClause_177 cs_RX12_244 rfl rfl (Nat.le_of_ble_eq_true rfl) (w_m_placeOf N d (by omega) _ _ _ _ h2) rfl ?_
  refine aw_istore (pc := 180) (ls' := [(7, .inl r2), (6, .inl 0), (0, .inr (.inr 49)), (2, .inl x2), (3, .inl x3), (4, .inr (.inr 57)), (5, .inr (.inr 223))]) dX12_readClause_180 (by decide) rfl ?_
  exact aw_sel [2, 3, 4, 5, 6, 1, 0] rfl (w_m_readClause_182c N d hd  N _ _ _ _ _ _ h)
def m_readClause_139c (N : Nat) : Nat → Int → Int → Int → aw_W → Option (aw_W)
  | 0, _, _, _, _ => none
  | n + 1, x2, x3, x6, w =>
    aw_b2 (j_Str_length_223 N w) fun r1 w1 =>
      if r1 ≤ x6 then
        m_readClause_168c N x2 x3 w1
      else
        aw_b2 (m_usual N x2 x6 w1) fun r2 w2 =>
          if 0 ≤ (aw_w (x3 + x6)) ∧ (aw_w (x3 + x6)) < 5 then
            m_readClause_139c N n x2 x3 (aw_w (x6 + 1)) (aw_up w2 57 ((aw_w (x3 + x6)).toNat) r2)
          else none
theorem w_m_readClause_139c {l : Launch} {K : aw_K} (N d : Nat) (hd : 4 ≤ d) : ∀ (n : Nat) (x2 x3 x6 : Int) (w v : aw_W), m_readClause_139c N n x2 x3 x6 w = some v → aw_AW l K MX12_readClause (d + 1) 139 [(0, .inr (.inr 49)), (2, .inl x2), (3, .inl x3), (4, .inr (.inr 57)), (5, .inr (.inr 223)), (6, .inl x6)] [] w (none, v) := by
  intro n
  induction n with
  | zero => intro x2 x3 x6 w v h; rw [m_readClause_139c] at h; cases h
  | succ n ih =>
    intro x2 x3 x6 w v h
    rw [m_readClause_139c] at h
    refine aw_iload (pc := 139) (q := 5) dX12_readClause_139 rfl ?_
    refine aw_aload (pc := 141) (q := 4) dX12_readClause_141 rfl ?_
    obtain ⟨r1, w1, h1, h⟩ := aw_b2s h
    refine aw_callT (pc := 143) (k := 3) (as := []) (st := [.inl x6]) (st' := [.inl r1, .inl x6]) dX12_readClause_143 cv_RX12_102 (by decide) rfl rfl rfl (Nat.le_of_ble_eq_true rfl) (w_j_Str_length_223 N d (by omega) _ _ _ h1) rfl ?_
    refine aw_icmp_ge (pc := 146) (tgt := 168) dX12_readClause_146 (by decide) (fun hc => ?_) (fun hc => ?_)
    · rw [if_pos hc] at h
      exact aw_sel [0, 1, 2, 3, 4] rfl (w_m_readClause_168c N d hd  _ _ _ _ h)
    · rw [if_neg hc] at h
      refine aw_aload (pc := 149) (q := 3) dX12_readClause_149 rfl ?_
      refine aw_iload_n (pc := 151) (q := 2) dX12_readClause_151 rfl ?_
      refine aw_iload (pc := 152) (q := 5) dX12_readClause_152 rfl ?_
      refine aw_iadd (pc := 154) dX12_readClause_154 ?_
      refine aw_iload_n (pc := 155) (q := 1) dX12_readClause_155 rfl ?_
      refine aw_iload (pc := 156) (q := 5) dX12_readClause_156 rfl ?_
      obtain ⟨r2, w2, h2, h⟩ := aw_b2s h
      refine aw_callS (pc := 158) (as := [.inl x2, .inl x6]) (st := [.inl (aw_w (x3 + x6)), .inr (.inr 57)]) (st' := [.inl r2, .inl (aw_w (x3 + x6)), .inr (.inr 57)]) dX12_readClause_158 cs_RX12_241 rfl rfl (Nat.le_of_ble_eq_true rfl) (w_m_usual N d (by omega) _ _ _ _ _ h2) rfl ?_
      obtain ⟨hb, h⟩ := aw_cks h
      refine aw_iast (pc := 161) dX12_readClause_161 rfl hb.1 hb.2 ?_
      refine aw_iinc (pc := 162) (q := 5) (ls' := [(6, .inl (aw_w (x6 + 1))), (0, .inr (.inr 49)), (2, .inl x2), (3, .inl x3), (4, .inr (.inr 57)), (5, .inr (.inr 223))]) dX12_readClause_162 rfl (by decide) rfl ?_
      refine aw_goto (pc := 165) (tgt := 139) dX12_readClause_165 (by decide) ?_
      exact aw_sel [1, 2, 3, 4, 5, 0] rfl (ih _ _ _ _ _ h)
def m_readClause_134c (N : Nat) (x2 x3 : Int) (w : aw_W) : Option (aw_W) :=
  m_readClause_139c N N x2 x3 0 w
theorem w_m_readClause_134c {l : Launch} {K : aw_K} (N d : Nat) (hd : 4 ≤ d) : ∀ (x2 x3 : Int) (w v : aw_W), m_readClause_134c N x2 x3 w = some v → aw_AW l K MX12_readClause (d + 1) 134 [(0, .inr (.inr 49)), (2, .inl x2), (3, .inl x3), (4, .inr (.inr 57))] [.inr (.inr 223)] w (none, v) := by
  intro x2 x3 w v h
  unfold m_readClause_134c at h
  refine aw_astore (pc := 134) (ls' := [(5, .inr (.inr 223)), (0, .inr (.inr 49)), (2, .inl x2), (3, .inl x3), (4, .inr (.inr 57))]) dX12_readClause_134 (by decide) rfl ?_
  refine aw_iconst (pc := 136) dX12_readClause_136 ⟨by decide, by decide⟩ ?_
  refine aw_istore (pc := 137) (ls' := [(6, .inl 0), (5, .inr (.inr 223)), (0, .inr (.inr 49)), (2, .inl x2), (3, .inl x3), (4, .inr (.inr 57))]) dX12_readClause_137 (by decide) rfl ?_
  exact aw_sel [2, 3, 4, 5, 1, 0] rfl (w_m_readClause_139c N d hd  N _ _ _ _ _ h)
def m_readClause_182d (N : Nat) : Nat → Int → Int → Int → Int → aw_W → Option (aw_W)
  | 0, _, _, _, _, _ => none
  | n + 1, x2, x3, x6, x7, w =>
    if x7 = (-1) then
      m_readClause_253 N w
    else
      if (w 49 11) = (-1) then
        aw_b2 (m_has N x6 x7 w) fun r1 w1 =>
          if r1 = 0 then
            aw_b1 (m_readItem_49_57 N x2 x7 x3 w1) fun w2 =>
              if (w2 49 11) = (-1) then
                aw_b2 (m_look N w2) fun r3 w3 =>
                  aw_b2 (m_placeOf_222 N r3 w3) fun r4 w4 =>
                    m_readClause_182d N n x2 x3 (aw_or x6 (aw_shl 1 x7)) r4 w4
              else
                m_readClause_182d N n x2 x3 (aw_or x6 (aw_shl 1 x7)) x7 w2
          else
            m_readClause_206 N w1
      else
        m_readClause_253 N w
theorem w_m_readClause_182d {l : Launch} {K : aw_K} (N d : Nat) (hd : 4 ≤ d) : ∀ (n : Nat) (x2 x3 x6 x7 : Int) (w v : aw_W), m_readClause_182d N n x2 x3 x6 x7 w = some v → aw_AW l K MX12_readClause (d + 1) 182 [(0, .inr (.inr 49)), (2, .inl x2), (3, .inl x3), (4, .inr (.inr 57)), (5, .inr (.inr 222)), (6, .inl x6), (7, .inl x7)] [] w (none, v) := by
  intro n
  induction n with
  | zero => intro x2 x3 x6 x7 w v h; rw [m_readClause_182d] at h; cases h
  | succ n ih =>
    intro x2 x3 x6 x7 w v h
    rw [m_readClause_182d] at h
    refine aw_iload (pc := 182) (q := 6) dX12_readClause_182 rfl ?_
    refine aw_iconst (pc := 184) dX12_readClause_184 ⟨by decide, by decide⟩ ?_
    refine aw_icmp_eq (pc := 185) (tgt := 253) dX12_readClause_185 (by decide) (fun hc => ?_) (fun hc => ?_)
    · rw [if_pos hc] at h
      exact aw_sel [] rfl (w_m_readClause_253 N d hd  _ _ h)
    · rw [if_neg hc] at h
      refine aw_aload_n (pc := 188) (q := 0) dX12_readClause_188 rfl ?_
      refine aw_getf (pc := 189) (v := .inl (w 49 11)) dX12_readClause_189 fl_RX12_131 (by decide) rfl rfl rfl ?_
      refine aw_iconst (pc := 192) dX12_readClause_192 ⟨by decide, by decide⟩ ?_
      refine aw_icmp_ne (pc := 193) (tgt := 253) dX12_readClause_193 (by decide) (fun hc => ?_) (fun hc => ?_)
      · rw [if_neg hc] at h
        exact aw_sel [] rfl (w_m_readClause_253 N d hd  _ _ h)
      · rw [if_pos hc] at h
        refine aw_iload (pc := 196) (q := 5) dX12_readClause_196 rfl ?_
        refine aw_iload (pc := 198) (q := 6) dX12_readClause_198 rfl ?_
        obtain ⟨r1, w1, h1, h⟩ := aw_b2s h
        refine aw_callS (pc := 200) (as := [.inl x6, .inl x7]) (st := []) (st' := [.inl r1]) dX12_readClause_200 cs_RX12_248 rfl rfl (Nat.le_of_ble_eq_true rfl) (w_m_has N d (by omega) _ _ _ _ _ h1) rfl ?_
        refine aw_if_eq (pc := 203) (tgt := 212) dX12_readClause_203 (by decide) (fun hc => ?_) (fun hc => ?_)
        · rw [if_pos hc] at h
          refine aw_iload (pc := 212) (q := 5) dX12_readClause_212 rfl ?_
          refine aw_iconst (pc := 214) dX12_readClause_214 ⟨by decide, by decide⟩ ?_
          refine aw_iload (pc := 215) (q := 6) dX12_readClause_215 rfl ?_
          refine aw_ishl (pc := 217) dX12_readClause_217 ?_
          refine aw_ior (pc := 218) dX12_readClause_218 ?_
          refine aw_istore (pc := 219) (ls' := [(6, .inl (aw_or x6 (aw_shl 1 x7))), (0, .inr (.inr 49)), (2, .inl x2), (3, .inl x3), (4, .inr (.inr 57)), (5, .inr (.inr 222)), (7, .inl x7)]) dX12_readClause_219 (by decide) rfl ?_
          refine aw_aload_n (pc := 221) (q := 1) dX12_readClause_221 rfl ?_
          refine aw_iload_n (pc := 222) (q := 2) dX12_readClause_222 rfl ?_
          refine aw_iload (pc := 223) (q := 6) dX12_readClause_223 rfl ?_
          refine aw_aload (pc := 225) (q := 4) dX12_readClause_225 rfl ?_
          refine aw_iload_n (pc := 227) (q := 3) dX12_readClause_227 rfl ?_
          obtain ⟨w2, h2, h⟩ := aw_b1s h
          refine aw_callV (pc := 228) (as := [.inl x2, .inl x7, .inr (.inr 57), .inl x3]) (st := []) (st' := []) dX12_readClause_228 cv_RX12_252 (by decide) rfl rfl rfl rfl (Nat.le_of_ble_eq_true rfl) (w_m_readItem_49_57 N d (by omega) _ _ _ _ _ h2) rfl ?_
          refine aw_aload_n (pc := 231) (q := 1) dX12_readClause_231 rfl ?_
          refine aw_getf (pc := 232) (v := .inl (w2 49 11)) dX12_readClause_232 fl_RX12_131 (by decide) rfl rfl rfl ?_
          refine aw_iconst (pc := 235) dX12_readClause_235 ⟨by decide, by decide⟩ ?_
          refine aw_icmp_ne (pc := 236) (tgt := 182) dX12_readClause_236 (by decide) (fun hc => ?_) (fun hc => ?_)
          · rw [if_neg hc] at h
            exact aw_sel [1, 2, 3, 4, 5, 0, 6] rfl (ih _ _ _ _ _ _ h)
          · rw [if_pos hc] at h
            refine aw_aload (pc := 239) (q := 5) dX12_readClause_239 rfl ?_
            refine aw_aload_n (pc := 241) (q := 1) dX12_readClause_241 rfl ?_
            obtain ⟨r3, w3, h3, h⟩ := aw_b2s h
            refine aw_callV (pc := 242) (as := []) (st := [.inr (.inr 222)]) (st' := [.inl r3, .inr (.inr 222)]) dX12_readClause_242 cv_RX12_141 (by decide) rfl rfl rfl rfl (Nat.le_of_ble_eq_true rfl) (w_m_look N d (by omega) _ _ _ h3) rfl ?_
            obtain ⟨r4, w4, h4, h⟩ := aw_b2s h
            refine aw_callS (pc := 245) (as := [.inr (.inr 222), .inl r3]) (st := []) (st' := [.inl r4]) dX12_readClause_245 cs_RX12_244 rfl rfl (Nat.le_of_ble_eq_true rfl) (w_m_placeOf_222 N d (by omega) _ _ _ _ h4) rfl ?_
            refine aw_istore (pc := 248) (ls' := [(7, .inl r4), (6, .inl (aw_or x6 (aw_shl 1 x7))), (0, .inr (.inr 49)), (2, .inl x2), (3, .inl x3), (4, .inr (.inr 57)), (5, .inr (.inr 222))]) dX12_readClause_248 (by decide) rfl ?_
            refine aw_goto (pc := 250) (tgt := 182) dX12_readClause_250 (by decide) ?_
            exact aw_sel [2, 3, 4, 5, 6, 1, 0] rfl (ih _ _ _ _ _ _ h)
        · rw [if_neg hc] at h
          exact aw_sel [0] rfl (w_m_readClause_206 N d hd  _ _ h)
def m_readClause_168d (N : Nat) (x2 x3 : Int) (w : aw_W) : Option (aw_W) :=
  aw_b2 (m_look N w) fun r1 w1 =>
    aw_b2 (m_placeOf_222 N r1 w1) fun r2 w2 =>
      m_readClause_182d N N x2 x3 0 r2 w2
theorem w_m_readClause_168d {l : Launch} {K : aw_K} (N d : Nat) (hd : 4 ≤ d) : ∀ (x2 x3 : Int) (w v : aw_W), m_readClause_168d N x2 x3 w = some v → aw_AW l K MX12_readClause (d + 1) 168 [(0, .inr (.inr 49)), (2, .inl x2), (3, .inl x3), (4, .inr (.inr 57)), (5, .inr (.inr 222))] [] w (none, v) := by
  intro x2 x3 w v h
  unfold m_readClause_168d at h
  refine aw_iconst (pc := 168) dX12_readClause_168 ⟨by decide, by decide⟩ ?_
  refine aw_istore (pc := 169) (ls' := [(6, .inl 0), (0, .inr (.inr 49)), (2, .inl x2), (3, .inl x3), (4, .inr (.inr 57)), (5, .inr (.inr 222))]) dX12_readClause_169 (by decide) rfl ?_
  refine aw_aload (pc := 171) (q := 5) dX12_readClause_171 rfl ?_
  refine aw_aload_n (pc := 173) (q := 1) dX12_readClause_173 rfl ?_
  obtain ⟨r1, w1, h1, h⟩ := aw_b2s h
  refine aw_callV (pc := 174) (as := []) (st := [.inr (.inr 222)]) (st' := [.inl r1, .inr (.inr 222)]) dX12_readClause_174 cv_RX12_141 (by decide) rfl rfl rfl rfl (Nat.le_of_ble_eq_true rfl) (w_m_look N d (by omega) _ _ _ h1) rfl ?_
  obtain ⟨r2, w2, h2, h⟩ := aw_b2s h
  refine aw_callS (pc := 177) (as := [.inr (.inr 222), .inl r1]) (st := []) (st' := [.inl r2]) dX12_readClause_177 cs_RX12_244 rfl rfl (Nat.le_of_ble_eq_true rfl) (w_m_placeOf_222 N d (by omega) _ _ _ _ h2) rfl ?_
  refine aw_istore (pc := 180) (ls' := [(7, .inl r2), (6, .inl 0), (0, .inr (.inr 49)), (2, .inl x2), (3, .inl x3), (4, .inr (.inr 57)), (5, .inr (.inr 222))]) dX12_readClause_180 (by decide) rfl ?_
  exact aw_sel [2, 3, 4, 5, 6, 1, 0] rfl (w_m_readClause_182d N d hd  N _ _ _ _ _ _ h)
def m_readClause_139d (N : Nat) : Nat → Int → Int → Int → aw_W → Option (aw_W)
  | 0, _, _, _, _ => none
  | n + 1, x2, x3, x6, w =>
    aw_b2 (j_Str_length_222 N w) fun r1 w1 =>
      if r1 ≤ x6 then
        m_readClause_168d N x2 x3 w1
      else
        aw_b2 (m_usual N x2 x6 w1) fun r2 w2 =>
          if 0 ≤ (aw_w (x3 + x6)) ∧ (aw_w (x3 + x6)) < 5 then
            m_readClause_139d N n x2 x3 (aw_w (x6 + 1)) (aw_up w2 57 ((aw_w (x3 + x6)).toNat) r2)
          else none
theorem w_m_readClause_139d {l : Launch} {K : aw_K} (N d : Nat) (hd : 4 ≤ d) : ∀ (n : Nat) (x2 x3 x6 : Int) (w v : aw_W), m_readClause_139d N n x2 x3 x6 w = some v → aw_AW l K MX12_readClause (d + 1) 139 [(0, .inr (.inr 49)), (2, .inl x2), (3, .inl x3), (4, .inr (.inr 57)), (5, .inr (.inr 222)), (6, .inl x6)] [] w (none, v) := by
  intro n
  induction n with
  | zero => intro x2 x3 x6 w v h; rw [m_readClause_139d] at h; cases h
  | succ n ih =>
    intro x2 x3 x6 w v h
    rw [m_readClause_139d] at h
    refine aw_iload (pc := 139) (q := 5) dX12_readClause_139 rfl ?_
    refine aw_aload (pc := 141) (q := 4) dX12_readClause_141 rfl ?_
    obtain ⟨r1, w1, h1, h⟩ := aw_b2s h
    refine aw_callT (pc := 143) (k := 2) (as := []) (st := [.inl x6]) (st' := [.inl r1, .inl x6]) dX12_readClause_143 cv_RX12_102 (by decide) rfl rfl rfl (Nat.le_of_ble_eq_true rfl) (w_j_Str_length_222 N d (by omega) _ _ _ h1) rfl ?_
    refine aw_icmp_ge (pc := 146) (tgt := 168) dX12_readClause_146 (by decide) (fun hc => ?_) (fun hc => ?_)
    · rw [if_pos hc] at h
      exact aw_sel [0, 1, 2, 3, 4] rfl (w_m_readClause_168d N d hd  _ _ _ _ h)
    · rw [if_neg hc] at h
      refine aw_aload (pc := 149) (q := 3) dX12_readClause_149 rfl ?_
      refine aw_iload_n (pc := 151) (q := 2) dX12_readClause_151 rfl ?_
      refine aw_iload (pc := 152) (q := 5) dX12_readClause_152 rfl ?_
      refine aw_iadd (pc := 154) dX12_readClause_154 ?_
      refine aw_iload_n (pc := 155) (q := 1) dX12_readClause_155 rfl ?_
      refine aw_iload (pc := 156) (q := 5) dX12_readClause_156 rfl ?_
      obtain ⟨r2, w2, h2, h⟩ := aw_b2s h
      refine aw_callS (pc := 158) (as := [.inl x2, .inl x6]) (st := [.inl (aw_w (x3 + x6)), .inr (.inr 57)]) (st' := [.inl r2, .inl (aw_w (x3 + x6)), .inr (.inr 57)]) dX12_readClause_158 cs_RX12_241 rfl rfl (Nat.le_of_ble_eq_true rfl) (w_m_usual N d (by omega) _ _ _ _ _ h2) rfl ?_
      obtain ⟨hb, h⟩ := aw_cks h
      refine aw_iast (pc := 161) dX12_readClause_161 rfl hb.1 hb.2 ?_
      refine aw_iinc (pc := 162) (q := 5) (ls' := [(6, .inl (aw_w (x6 + 1))), (0, .inr (.inr 49)), (2, .inl x2), (3, .inl x3), (4, .inr (.inr 57)), (5, .inr (.inr 222))]) dX12_readClause_162 rfl (by decide) rfl ?_
      refine aw_goto (pc := 165) (tgt := 139) dX12_readClause_165 (by decide) ?_
      exact aw_sel [1, 2, 3, 4, 5, 0] rfl (ih _ _ _ _ _ h)
def m_readClause_134d (N : Nat) (x2 x3 : Int) (w : aw_W) : Option (aw_W) :=
  m_readClause_139d N N x2 x3 0 w
theorem w_m_readClause_134d {l : Launch} {K : aw_K} (N d : Nat) (hd : 4 ≤ d) : ∀ (x2 x3 : Int) (w v : aw_W), m_readClause_134d N x2 x3 w = some v → aw_AW l K MX12_readClause (d + 1) 134 [(0, .inr (.inr 49)), (2, .inl x2), (3, .inl x3), (4, .inr (.inr 57))] [.inr (.inr 222)] w (none, v) := by
  intro x2 x3 w v h
  unfold m_readClause_134d at h
  refine aw_astore (pc := 134) (ls' := [(5, .inr (.inr 222)), (0, .inr (.inr 49)), (2, .inl x2), (3, .inl x3), (4, .inr (.inr 57))]) dX12_readClause_134 (by decide) rfl ?_
  refine aw_iconst (pc := 136) dX12_readClause_136 ⟨by decide, by decide⟩ ?_
  refine aw_istore (pc := 137) (ls' := [(6, .inl 0), (5, .inr (.inr 222)), (0, .inr (.inr 49)), (2, .inl x2), (3, .inl x3), (4, .inr (.inr 57))]) dX12_readClause_137 (by decide) rfl ?_
  exact aw_sel [2, 3, 4, 5, 1, 0] rfl (w_m_readClause_139d N d hd  N _ _ _ _ _ h)
def m_readClause_121b (N : Nat) (x2 x3 : Int) (w : aw_W) : Option (aw_W) :=
  if x2 = 0 then
    m_readClause_134c N x2 x3 w
  else
    m_readClause_134d N x2 x3 w
theorem w_m_readClause_121b {l : Launch} {K : aw_K} (N d : Nat) (hd : 4 ≤ d) : ∀ (x2 x3 : Int) (w v : aw_W), m_readClause_121b N x2 x3 w = some v → aw_AW l K MX12_readClause (d + 1) 121 [(0, .inr (.inr 49)), (2, .inl x2), (3, .inl x3)] [.inr (.inr 57)] w (none, v) := by
  intro x2 x3 w v h
  unfold m_readClause_121b at h
  refine aw_astore (pc := 121) (ls' := [(4, .inr (.inr 57)), (0, .inr (.inr 49)), (2, .inl x2), (3, .inl x3)]) dX12_readClause_121 (by decide) rfl ?_
  refine aw_iload_n (pc := 123) (q := 2) dX12_readClause_123 rfl ?_
  refine aw_if_eq (pc := 124) (tgt := 132) dX12_readClause_124 (by decide) (fun hc => ?_) (fun hc => ?_)
  · rw [if_pos hc] at h
    refine aw_ldcs3 (pc := 132) dX12_readClause_132 ?_
    exact aw_sel [1, 2, 3, 0] rfl (w_m_readClause_134c N d hd  _ _ _ _ h)
  · rw [if_neg hc] at h
    refine aw_ldcs2 (pc := 127) dX12_readClause_127 ?_
    refine aw_goto (pc := 129) (tgt := 134) dX12_readClause_129 (by decide) ?_
    exact aw_sel [1, 2, 3, 0] rfl (w_m_readClause_134d N d hd  _ _ _ _ h)
def m_readClause_106 (N : Nat) (x2 x3 : Int) (w : aw_W) : Option (aw_W) :=
  if x2 = 0 then
    m_readClause_121 N x2 x3 w
  else
    m_readClause_121b N x2 x3 w
theorem w_m_readClause_106 {l : Launch} {K : aw_K} (N d : Nat) (hd : 4 ≤ d) : ∀ (x2 x3 : Int) (w v : aw_W), m_readClause_106 N x2 x3 w = some v → aw_AW l K MX12_readClause (d + 1) 106 [(0, .inr (.inr 49)), (2, .inl x2), (3, .inl x3)] [] w (none, v) := by
  intro x2 x3 w v h
  unfold m_readClause_106 at h
  refine aw_iload_n (pc := 106) (q := 1) dX12_readClause_106 rfl ?_
  refine aw_if_eq (pc := 107) (tgt := 117) dX12_readClause_107 (by decide) (fun hc => ?_) (fun hc => ?_)
  · rw [if_pos hc] at h
    refine aw_aload_n (pc := 117) (q := 0) dX12_readClause_117 rfl ?_
    refine aw_getf (pc := 118) (v := .inr (.inr 55)) dX12_readClause_118 fl_RX12_40 (by decide) rfl rfl rfl ?_
    exact aw_sel [0, 1, 2] rfl (w_m_readClause_121 N d hd  _ _ _ _ h)
  · rw [if_neg hc] at h
    refine aw_aload_n (pc := 110) (q := 0) dX12_readClause_110 rfl ?_
    refine aw_getf (pc := 111) (v := .inr (.inr 57)) dX12_readClause_111 fl_RX12_46 (by decide) rfl rfl rfl ?_
    refine aw_goto (pc := 114) (tgt := 121) dX12_readClause_114 (by decide) ?_
    exact aw_sel [0, 1, 2] rfl (w_m_readClause_121b N d hd  _ _ _ _ h)
def m_readClause_83 (N : Nat) (x2 s0 : Int) (w : aw_W) : Option (aw_W) :=
  if x2 = 0 then
    m_readClause_106 N x2 s0 (aw_up w 49 23 (aw_w ((w 49 23) + 1)))
  else
    m_readClause_106 N x2 s0 (aw_up w 49 24 1)
theorem w_m_readClause_83 {l : Launch} {K : aw_K} (N d : Nat) (hd : 4 ≤ d) : ∀ (x2 s0 : Int) (w v : aw_W), m_readClause_83 N x2 s0 w = some v → aw_AW l K MX12_readClause (d + 1) 83 [(0, .inr (.inr 49)), (2, .inl x2)] [.inl s0] w (none, v) := by
  intro x2 s0 w v h
  unfold m_readClause_83 at h
  refine aw_istore_n (pc := 83) (ls' := [(3, .inl s0), (0, .inr (.inr 49)), (2, .inl x2)]) dX12_readClause_83 (by decide) rfl ?_
  refine aw_iload_n (pc := 84) (q := 2) dX12_readClause_84 rfl ?_
  refine aw_if_eq (pc := 85) (tgt := 96) dX12_readClause_85 (by decide) (fun hc => ?_) (fun hc => ?_)
  · rw [if_pos hc] at h
    refine aw_aload_n (pc := 96) (q := 1) dX12_readClause_96 rfl ?_
    refine aw_dup (pc := 97) dX12_readClause_97 rfl ?_
    refine aw_getf (pc := 98) (v := .inl (w 49 23)) dX12_readClause_98 fl_RX12_234 (by decide) rfl rfl rfl ?_
    refine aw_iconst (pc := 101) dX12_readClause_101 ⟨by decide, by decide⟩ ?_
    refine aw_iadd (pc := 102) dX12_readClause_102 ?_
    refine aw_puti (pc := 103) dX12_readClause_103 fp_RX12_234 (by decide) rfl rfl ?_
    exact aw_sel [1, 2, 0] rfl (w_m_readClause_106 N d hd  _ _ _ _ h)
  · rw [if_neg hc] at h
    refine aw_aload_n (pc := 88) (q := 1) dX12_readClause_88 rfl ?_
    refine aw_iconst (pc := 89) dX12_readClause_89 ⟨by decide, by decide⟩ ?_
    refine aw_putz (pc := 90) dX12_readClause_90 fp_RX12_231 (by decide) rfl rfl (by decide) ?_
    refine aw_goto (pc := 93) (tgt := 106) dX12_readClause_93 (by decide) ?_
    exact aw_sel [1, 2, 0] rfl (w_m_readClause_106 N d hd  _ _ _ _ h)
def m_readClause_59 (N : Nat) (x2 : Int) (w : aw_W) : Option (aw_W) :=
  if x2 = 0 then
    m_readClause_83 N x2 (aw_w (4 * (w 49 23))) (aw_up w 49 10 (aw_w ((w 49 10) + 1)))
  else
    m_readClause_83 N x2 0 (aw_up w 49 10 (aw_w ((w 49 10) + 1)))
theorem w_m_readClause_59 {l : Launch} {K : aw_K} (N d : Nat) (hd : 4 ≤ d) : ∀ (x2 : Int) (w v : aw_W), m_readClause_59 N x2 w = some v → aw_AW l K MX12_readClause (d + 1) 59 [(0, .inr (.inr 49)), (2, .inl x2)] [] w (none, v) := by
  intro x2 w v h
  unfold m_readClause_59 at h
  refine aw_aload_n (pc := 59) (q := 0) dX12_readClause_59 rfl ?_
  refine aw_dup (pc := 60) dX12_readClause_60 rfl ?_
  refine aw_getf (pc := 61) (v := .inl (w 49 10)) dX12_readClause_61 fl_RX12_122 (by decide) rfl rfl rfl ?_
  refine aw_iconst (pc := 64) dX12_readClause_64 ⟨by decide, by decide⟩ ?_
  refine aw_iadd (pc := 65) dX12_readClause_65 ?_
  refine aw_puti (pc := 66) dX12_readClause_66 fp_RX12_122 (by decide) rfl rfl ?_
  refine aw_iload_n (pc := 69) (q := 1) dX12_readClause_69 rfl ?_
  refine aw_if_eq (pc := 70) (tgt := 77) dX12_readClause_70 (by decide) (fun hc => ?_) (fun hc => ?_)
  · rw [if_pos hc] at h
    refine aw_iconst (pc := 77) dX12_readClause_77 ⟨by decide, by decide⟩ ?_
    refine aw_aload_n (pc := 78) (q := 0) dX12_readClause_78 rfl ?_
    refine aw_getf (pc := 79) (v := .inl (w 49 23)) dX12_readClause_79 fl_RX12_234 (by decide) rfl rfl rfl ?_
    refine aw_imul (pc := 82) dX12_readClause_82 ?_
    exact aw_sel [0, 1] rfl (w_m_readClause_83 N d hd  _ _ _ _ h)
  · rw [if_neg hc] at h
    refine aw_iconst (pc := 73) dX12_readClause_73 ⟨by decide, by decide⟩ ?_
    refine aw_goto (pc := 74) (tgt := 83) dX12_readClause_74 (by decide) ?_
    exact aw_sel [0, 1] rfl (w_m_readClause_83 N d hd  _ _ _ _ h)
def m_readClause_53 (N : Nat) (w : aw_W) : Option (aw_W) :=
  aw_b2 (m_fails N w) fun r1 w1 =>
    some w1
theorem w_m_readClause_53 {l : Launch} {K : aw_K} (N d : Nat) (hd : 4 ≤ d) : ∀ (w v : aw_W), m_readClause_53 N w = some v → aw_AW l K MX12_readClause (d + 1) 53 [(0, .inr (.inr 49))] [] w (none, v) := by
  intro w v h
  unfold m_readClause_53 at h
  refine aw_aload_n (pc := 53) (q := 0) dX12_readClause_53 rfl ?_
  obtain ⟨r1, w1, h1, h⟩ := aw_b2s h
  refine aw_callV (pc := 54) (as := []) (st := []) (st' := [.inl r1]) dX12_readClause_54 cv_RX12_137 (by decide) rfl rfl rfl rfl (Nat.le_of_ble_eq_true rfl) (w_m_fails N d (by omega) _ _ _ h1) rfl ?_
  refine aw_pop (pc := 57) dX12_readClause_57 rfl ?_
  cases h
  exact aw_vret (pc := 58) rfl dX12_readClause_58
def m_readClause_38 (N : Nat) (x1 x2 : Int) (w : aw_W) : Option (aw_W) :=
  if x1 = 115 then
    if (w 49 23) = 6 then
      m_readClause_53 N w
    else
      m_readClause_59 N x2 w
  else
    m_readClause_59 N x2 w
theorem w_m_readClause_38 {l : Launch} {K : aw_K} (N d : Nat) (hd : 4 ≤ d) : ∀ (x1 x2 : Int) (w v : aw_W), m_readClause_38 N x1 x2 w = some v → aw_AW l K MX12_readClause (d + 1) 38 [(0, .inr (.inr 49)), (1, .inl x1), (2, .inl x2)] [] w (none, v) := by
  intro x1 x2 w v h
  unfold m_readClause_38 at h
  refine aw_iload_n (pc := 38) (q := 1) dX12_readClause_38 rfl ?_
  refine aw_bipush (pc := 39) dX12_readClause_39 (by decide) ⟨by decide, by decide⟩ ?_
  refine aw_icmp_ne (pc := 41) (tgt := 59) dX12_readClause_41 (by decide) (fun hc => ?_) (fun hc => ?_)
  · rw [if_neg hc] at h
    exact aw_sel [0, 2] rfl (w_m_readClause_59 N d hd  _ _ _ h)
  · rw [if_pos hc] at h
    refine aw_aload_n (pc := 44) (q := 0) dX12_readClause_44 rfl ?_
    refine aw_getf (pc := 45) (v := .inl (w 49 23)) dX12_readClause_45 fl_RX12_234 (by decide) rfl rfl rfl ?_
    refine aw_bipush (pc := 48) dX12_readClause_48 (by decide) ⟨by decide, by decide⟩ ?_
    refine aw_icmp_ne (pc := 50) (tgt := 59) dX12_readClause_50 (by decide) (fun hc => ?_) (fun hc => ?_)
    · rw [if_neg hc] at h
      exact aw_sel [0, 2] rfl (w_m_readClause_59 N d hd  _ _ _ h)
    · rw [if_pos hc] at h
      exact aw_sel [0] rfl (w_m_readClause_53 N d hd  _ _ h)
def m_readClause_27 (N : Nat) (x1 x2 : Int) (w : aw_W) : Option (aw_W) :=
  if x2 = 0 then
    m_readClause_38 N x1 x2 w
  else
    if (w 49 24) = 0 then
      m_readClause_38 N x1 x2 w
    else
      m_readClause_53 N w
theorem w_m_readClause_27 {l : Launch} {K : aw_K} (N d : Nat) (hd : 4 ≤ d) : ∀ (x1 x2 : Int) (w v : aw_W), m_readClause_27 N x1 x2 w = some v → aw_AW l K MX12_readClause (d + 1) 27 [(0, .inr (.inr 49)), (1, .inl x1), (2, .inl x2)] [] w (none, v) := by
  intro x1 x2 w v h
  unfold m_readClause_27 at h
  refine aw_iload_n (pc := 27) (q := 2) dX12_readClause_27 rfl ?_
  refine aw_if_eq (pc := 28) (tgt := 38) dX12_readClause_28 (by decide) (fun hc => ?_) (fun hc => ?_)
  · rw [if_pos hc] at h
    exact aw_sel [0, 1, 2] rfl (w_m_readClause_38 N d hd  _ _ _ _ h)
  · rw [if_neg hc] at h
    refine aw_aload_n (pc := 31) (q := 0) dX12_readClause_31 rfl ?_
    refine aw_getf (pc := 32) (v := .inl (w 49 24)) dX12_readClause_32 fl_RX12_231 (by decide) rfl rfl rfl ?_
    refine aw_if_ne (pc := 35) (tgt := 53) dX12_readClause_35 (by decide) (fun hc => ?_) (fun hc => ?_)
    · rw [if_neg hc] at h
      exact aw_sel [0] rfl (w_m_readClause_53 N d hd  _ _ h)
    · rw [if_pos hc] at h
      exact aw_sel [0, 1, 2] rfl (w_m_readClause_38 N d hd  _ _ _ _ h)
def m_readClause_16 (N : Nat) (x1 s0 : Int) (w : aw_W) : Option (aw_W) :=
  if s0 = 0 then
    if x1 = 115 then
      m_readClause_27 N x1 s0 w
    else
      m_readClause_53 N w
  else
    m_readClause_27 N x1 s0 w
theorem w_m_readClause_16 {l : Launch} {K : aw_K} (N d : Nat) (hd : 4 ≤ d) : ∀ (x1 s0 : Int) (w v : aw_W), m_readClause_16 N x1 s0 w = some v → aw_AW l K MX12_readClause (d + 1) 16 [(0, .inr (.inr 49)), (1, .inl x1)] [.inl s0] w (none, v) := by
  intro x1 s0 w v h
  unfold m_readClause_16 at h
  refine aw_istore_n (pc := 16) (ls' := [(2, .inl s0), (0, .inr (.inr 49)), (1, .inl x1)]) dX12_readClause_16 (by decide) rfl ?_
  refine aw_iload_n (pc := 17) (q := 0) dX12_readClause_17 rfl ?_
  refine aw_if_ne (pc := 18) (tgt := 27) dX12_readClause_18 (by decide) (fun hc => ?_) (fun hc => ?_)
  · rw [if_neg hc] at h
    exact aw_sel [1, 2, 0] rfl (w_m_readClause_27 N d hd  _ _ _ _ h)
  · rw [if_pos hc] at h
    refine aw_iload_n (pc := 21) (q := 2) dX12_readClause_21 rfl ?_
    refine aw_bipush (pc := 22) dX12_readClause_22 (by decide) ⟨by decide, by decide⟩ ?_
    refine aw_icmp_ne (pc := 24) (tgt := 53) dX12_readClause_24 (by decide) (fun hc => ?_) (fun hc => ?_)
    · rw [if_neg hc] at h
      exact aw_sel [1] rfl (w_m_readClause_53 N d hd  _ _ h)
    · rw [if_pos hc] at h
      exact aw_sel [1, 2, 0] rfl (w_m_readClause_27 N d hd  _ _ _ _ h)
def m_readClause (N : Nat) (w : aw_W) : Option (aw_W) :=
  aw_b2 (m_look N w) fun r1 w1 =>
    if r1 = 108 then
      m_readClause_16 N r1 1 w1
    else
      m_readClause_16 N r1 0 w1
theorem w_m_readClause_d {l : Launch} {K : aw_K} (N d : Nat) (hd : 4 ≤ d) : ∀ (w v : aw_W), m_readClause N w = some v → aw_Met l K MX12_readClause (d + 1) [.inr (.inr 49)] w (none, v) := by
  intro w v h
  unfold m_readClause at h
  refine aw_enter rfl (Nat.le_of_ble_eq_true rfl) ?_
  show aw_AW l K MX12_readClause (d + 1) 0 [(0, .inr (.inr 49))] [] w (none, v)
  refine aw_aload_n (pc := 0) (q := 0) dX12_readClause_0 rfl ?_
  obtain ⟨r1, w1, h1, h⟩ := aw_b2s h
  refine aw_callV (pc := 1) (as := []) (st := []) (st' := [.inl r1]) dX12_readClause_1 cv_RX12_141 (by decide) rfl rfl rfl rfl (Nat.le_of_ble_eq_true rfl) (w_m_look N d (by omega) _ _ _ h1) rfl ?_
  refine aw_istore_n (pc := 4) (ls' := [(1, .inl r1), (0, .inr (.inr 49))]) dX12_readClause_4 (by decide) rfl ?_
  refine aw_iload_n (pc := 5) (q := 0) dX12_readClause_5 rfl ?_
  refine aw_bipush (pc := 6) dX12_readClause_6 (by decide) ⟨by decide, by decide⟩ ?_
  refine aw_icmp_ne (pc := 8) (tgt := 15) dX12_readClause_8 (by decide) (fun hc => ?_) (fun hc => ?_)
  · rw [if_neg hc] at h
    refine aw_iconst (pc := 15) dX12_readClause_15 ⟨by decide, by decide⟩ ?_
    exact aw_sel [1, 0] rfl (w_m_readClause_16 N d hd  _ _ _ _ h)
  · rw [if_pos hc] at h
    refine aw_iconst (pc := 11) dX12_readClause_11 ⟨by decide, by decide⟩ ?_
    refine aw_goto (pc := 12) (tgt := 16) dX12_readClause_12 (by decide) ?_
    exact aw_sel [1, 0] rfl (w_m_readClause_16 N d hd  _ _ _ _ h)
theorem w_m_readClause {l : Launch} {K : aw_K} (N d : Nat) (hd : 5 ≤ d) : ∀ (w v : aw_W), m_readClause N w = some v → aw_Met l K MX12_readClause (d) [.inr (.inr 49)] w (none, v) := by
  obtain ⟨e, rfl⟩ : ∃ e, d = e + 1 := ⟨d - 1, by omega⟩
  exact w_m_readClause_d N e (by omega)
