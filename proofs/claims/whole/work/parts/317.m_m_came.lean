theorem dX12_came_0 : decode cX12_came 0 = .ok (.aload_n 0, 1) := by decide +kernel
theorem dX12_came_1 : decode cX12_came 1 = .ok (.iconst 0, 1) := by decide +kernel
theorem dX12_came_2 : decode cX12_came 2 = .ok (.putfield 99, 3) := by decide +kernel
theorem dX12_came_5 : decode cX12_came 5 = .ok (.aload_n 0, 1) := by decide +kernel
theorem dX12_came_6 : decode cX12_came 6 = .ok (.iload_n 1, 1) := by decide +kernel
theorem dX12_came_7 : decode cX12_came 7 = .ok (.iload_n 2, 1) := by decide +kernel
theorem dX12_came_8 : decode cX12_came 8 = .ok (.invokevirtual 310, 3) := by decide +kernel
theorem dX12_came_11 : decode cX12_came 11 = .ok (.ifCond .eq 11, 3) := by decide +kernel
theorem dX12_came_14 : decode cX12_came 14 = .ok (.aload_n 0, 1) := by decide +kernel
theorem dX12_came_15 : decode cX12_came 15 = .ok (.iload_n 3, 1) := by decide +kernel
theorem dX12_came_16 : decode cX12_came 16 = .ok (.invokevirtual 282, 3) := by decide +kernel
theorem dX12_came_19 : decode cX12_came 19 = .ok (.ifCond .ne 7, 3) := by decide +kernel
theorem dX12_came_22 : decode cX12_came 22 = .ok (.ldc_w 315, 3) := by decide +kernel
theorem dX12_came_25 : decode cX12_came 25 = .ok (.ireturn, 1) := by decide +kernel
theorem dX12_came_26 : decode cX12_came 26 = .ok (.aload_n 0, 1) := by decide +kernel
theorem dX12_came_27 : decode cX12_came 27 = .ok (.iload_n 1, 1) := by decide +kernel
theorem dX12_came_28 : decode cX12_came 28 = .ok (.iload_n 2, 1) := by decide +kernel
theorem dX12_came_29 : decode cX12_came 29 = .ok (.invokevirtual 316, 3) := by decide +kernel
theorem dX12_came_32 : decode cX12_came 32 = .ok (.aload_n 0, 1) := by decide +kernel
theorem dX12_came_33 : decode cX12_came 33 = .ok (.getfield 62, 3) := by decide +kernel
theorem dX12_came_36 : decode cX12_came 36 = .ok (.iload_n 3, 1) := by decide +kernel
theorem dX12_came_37 : decode cX12_came 37 = .ok (.iaload, 1) := by decide +kernel
theorem dX12_came_38 : decode cX12_came 38 = .ok (.ireturn, 1) := by decide +kernel
def m_came_22 (N : Nat) (w : aw_W) : Option (Int × aw_W) :=
  some ((-1000000), w)
theorem w_m_came_22 {l : Launch} {K : aw_K} (N d : Nat) (hd : 129 ≤ d) : ∀ (w : aw_W) (y : Int) (v : aw_W), m_came_22 N w = some (y, v) → aw_AW l K MX12_came (d + 1) 22 [] [] w (some (.inl y), v) := by
  intro w y v h
  unfold m_came_22 at h
  refine aw_ldcw (pc := 22) (x := (-1000000)) dX12_came_22 cn_RX12_315 ⟨by decide, by decide⟩ ?_
  cases h
  exact aw_iret (pc := 25) rfl dX12_came_25
def m_came (N : Nat) (x1 x2 x3 : Int) (w : aw_W) : Option (Int × aw_W) :=
  aw_b2 (m_isRace N x1 x2 (aw_up w 49 0 0)) fun r1 w1 =>
    if r1 = 0 then
      m_came_22 N w1
    else
      aw_b2 (m_isStriver N x3 w1) fun r2 w2 =>
        if r2 = 0 then
          m_came_22 N w2
        else
          aw_b1 (m_run N x1 x2 w2) fun w3 =>
            if 0 ≤ x3 ∧ x3 < 6 then
              some (w3 62 x3.toNat, w3)
            else none
theorem w_m_came_d {l : Launch} {K : aw_K} (N d : Nat) (hd : 129 ≤ d) : ∀ (x1 x2 x3 : Int) (w : aw_W) (y : Int) (v : aw_W), m_came N x1 x2 x3 w = some (y, v) → aw_Met l K MX12_came (d + 1) [.inr (.inr 49), .inl x1, .inl x2, .inl x3] w (some (.inl y), v) := by
  intro x1 x2 x3 w y v h
  unfold m_came at h
  refine aw_enter rfl (Nat.le_of_ble_eq_true rfl) ?_
  show aw_AW l K MX12_came (d + 1) 0 [(0, .inr (.inr 49)), (1, .inl x1), (2, .inl x2), (3, .inl x3)] [] w (some (.inl y), v)
  refine aw_aload_n (pc := 0) (q := 0) dX12_came_0 rfl ?_
  refine aw_iconst (pc := 1) dX12_came_1 ⟨by decide, by decide⟩ ?_
  refine aw_puti (pc := 2) dX12_came_2 fp_RX12_99 (by decide) rfl rfl ?_
  refine aw_aload_n (pc := 5) (q := 0) dX12_came_5 rfl ?_
  refine aw_iload_n (pc := 6) (q := 1) dX12_came_6 rfl ?_
  refine aw_iload_n (pc := 7) (q := 2) dX12_came_7 rfl ?_
  obtain ⟨r1, w1, h1, h⟩ := aw_b2s h
  refine aw_callV (pc := 8) (as := [.inl x1, .inl x2]) (st := []) (st' := [.inl r1]) dX12_came_8 cv_RX12_310 (by decide) rfl rfl rfl rfl (Nat.le_of_ble_eq_true rfl) (w_m_isRace N d (by omega) _ _ _ _ _ h1) rfl ?_
  refine aw_if_eq (pc := 11) (tgt := 22) dX12_came_11 (by decide) (fun hc => ?_) (fun hc => ?_)
  · rw [if_pos hc] at h
    exact aw_sel [] rfl (w_m_came_22 N d hd  _ _ _ h)
  · rw [if_neg hc] at h
    refine aw_aload_n (pc := 14) (q := 0) dX12_came_14 rfl ?_
    refine aw_iload_n (pc := 15) (q := 3) dX12_came_15 rfl ?_
    obtain ⟨r2, w2, h2, h⟩ := aw_b2s h
    refine aw_callV (pc := 16) (as := [.inl x3]) (st := []) (st' := [.inl r2]) dX12_came_16 cv_RX12_282 (by decide) rfl rfl rfl rfl (Nat.le_of_ble_eq_true rfl) (w_m_isStriver N d (by omega) _ _ _ _ h2) rfl ?_
    refine aw_if_ne (pc := 19) (tgt := 26) dX12_came_19 (by decide) (fun hc => ?_) (fun hc => ?_)
    · rw [if_neg hc] at h
      refine aw_aload_n (pc := 26) (q := 0) dX12_came_26 rfl ?_
      refine aw_iload_n (pc := 27) (q := 1) dX12_came_27 rfl ?_
      refine aw_iload_n (pc := 28) (q := 2) dX12_came_28 rfl ?_
      obtain ⟨w3, h3, h⟩ := aw_b1s h
      refine aw_callV (pc := 29) (as := [.inl x1, .inl x2]) (st := []) (st' := []) dX12_came_29 cv_RX12_316 (by decide) rfl rfl rfl rfl (Nat.le_of_ble_eq_true rfl) (w_m_run N d (by omega) _ _ _ _ h3) rfl ?_
      refine aw_aload_n (pc := 32) (q := 0) dX12_came_32 rfl ?_
      refine aw_getf (pc := 33) (v := .inr (.inr 62)) dX12_came_33 fl_RX12_62 (by decide) rfl rfl rfl ?_
      refine aw_iload_n (pc := 36) (q := 3) dX12_came_36 rfl ?_
      obtain ⟨hb, h⟩ := aw_cks h
      refine aw_ialdv (pc := 37) (v := w3 62 x3.toNat) dX12_came_37 rfl hb.1 hb.2 rfl ?_
      cases h
      exact aw_iret (pc := 38) rfl dX12_came_38
    · rw [if_pos hc] at h
      exact aw_sel [] rfl (w_m_came_22 N d hd  _ _ _ h)
theorem w_m_came {l : Launch} {K : aw_K} (N d : Nat) (hd : 130 ≤ d) : ∀ (x1 x2 x3 : Int) (w : aw_W) (y : Int) (v : aw_W), m_came N x1 x2 x3 w = some (y, v) → aw_Met l K MX12_came (d) [.inr (.inr 49), .inl x1, .inl x2, .inl x3] w (some (.inl y), v) := by
  obtain ⟨e, rfl⟩ : ∃ e, d = e + 1 := ⟨d - 1, by omega⟩
  exact w_m_came_d N e (by omega)
theorem dX12_leastOf_0 : decode cX12_leastOf 0 = .ok (.iload_n 1, 1) := by decide +kernel
theorem dX12_leastOf_1 : decode cX12_leastOf 1 = .ok (.ifCond .ne 7, 3) := by decide +kernel
theorem dX12_leastOf_4 : decode cX12_leastOf 4 = .ok (.iconst 1, 1) := by decide +kernel
theorem dX12_leastOf_5 : decode cX12_leastOf 5 = .ok (.goto 4, 3) := by decide +kernel
theorem dX12_leastOf_8 : decode cX12_leastOf 8 = .ok (.iconst 0, 1) := by decide +kernel
theorem dX12_leastOf_9 : decode cX12_leastOf 9 = .ok (.ireturn, 1) := by decide +kernel
def m_leastOf_9 (N : Nat) (s0 : Int) (w : aw_W) : Option (Int × aw_W) :=
  some (s0, w)
theorem w_m_leastOf_9 {l : Launch} {K : aw_K} (N d : Nat) : ∀ (s0 : Int) (w : aw_W) (y : Int) (v : aw_W), m_leastOf_9 N s0 w = some (y, v) → aw_AW l K MX12_leastOf (d) 9 [] [.inl s0] w (some (.inl y), v) := by
  intro s0 w y v h
  unfold m_leastOf_9 at h
  cases h
  exact aw_iret (pc := 9) rfl dX12_leastOf_9
def m_leastOf (N : Nat) (x0 x1 : Int) (w : aw_W) : Option (Int × aw_W) :=
  if x1 = 0 then
    m_leastOf_9 N 1 w
  else
    m_leastOf_9 N 0 w
theorem w_m_leastOf {l : Launch} {K : aw_K} (N d : Nat) (hd : 0 ≤ d) : ∀ (x0 x1 : Int) (w : aw_W) (y : Int) (v : aw_W), m_leastOf N x0 x1 w = some (y, v) → aw_Met l K MX12_leastOf (d) [.inl x0, .inl x1] w (some (.inl y), v) := by
  intro x0 x1 w y v h
  unfold m_leastOf at h
  refine aw_enter rfl (Nat.le_of_ble_eq_true rfl) ?_
  show aw_AW l K MX12_leastOf (d) 0 [(0, .inl x0), (1, .inl x1)] [] w (some (.inl y), v)
  refine aw_iload_n (pc := 0) (q := 1) dX12_leastOf_0 rfl ?_
  refine aw_if_ne (pc := 1) (tgt := 8) dX12_leastOf_1 (by decide) (fun hc => ?_) (fun hc => ?_)
  · rw [if_neg hc] at h
    refine aw_iconst (pc := 8) dX12_leastOf_8 ⟨by decide, by decide⟩ ?_
    exact aw_sel [] rfl (w_m_leastOf_9 N d  _ _ _ _ h)
  · rw [if_pos hc] at h
    refine aw_iconst (pc := 4) dX12_leastOf_4 ⟨by decide, by decide⟩ ?_
    refine aw_goto (pc := 5) (tgt := 9) dX12_leastOf_5 (by decide) ?_
    exact aw_sel [] rfl (w_m_leastOf_9 N d  _ _ _ _ h)
theorem dX12_mostOf_0 : decode cX12_mostOf 0 = .ok (.iload_n 0, 1) := by decide +kernel
theorem dX12_mostOf_1 : decode cX12_mostOf 1 = .ok (.ifCond .eq 43, 3) := by decide +kernel
theorem dX12_mostOf_4 : decode cX12_mostOf 4 = .ok (.iload_n 1, 1) := by decide +kernel
theorem dX12_mostOf_5 : decode cX12_mostOf 5 = .ok (.ifCond .ne 8, 3) := by decide +kernel
theorem dX12_mostOf_8 : decode cX12_mostOf 8 = .ok (.bipush 6, 2) := by decide +kernel
theorem dX12_mostOf_10 : decode cX12_mostOf 10 = .ok (.goto 33, 3) := by decide +kernel
theorem dX12_mostOf_13 : decode cX12_mostOf 13 = .ok (.iload_n 1, 1) := by decide +kernel
theorem dX12_mostOf_14 : decode cX12_mostOf 14 = .ok (.iconst 1, 1) := by decide +kernel
theorem dX12_mostOf_15 : decode cX12_mostOf 15 = .ok (.if_icmp .ne 7, 3) := by decide +kernel
theorem dX12_mostOf_18 : decode cX12_mostOf 18 = .ok (.iconst 1, 1) := by decide +kernel
theorem dX12_mostOf_19 : decode cX12_mostOf 19 = .ok (.goto 24, 3) := by decide +kernel
theorem dX12_mostOf_22 : decode cX12_mostOf 22 = .ok (.iload_n 1, 1) := by decide +kernel
theorem dX12_mostOf_23 : decode cX12_mostOf 23 = .ok (.iconst 2, 1) := by decide +kernel
theorem dX12_mostOf_24 : decode cX12_mostOf 24 = .ok (.if_icmp .ne 7, 3) := by decide +kernel
theorem dX12_mostOf_27 : decode cX12_mostOf 27 = .ok (.iconst 2, 1) := by decide +kernel
theorem dX12_mostOf_28 : decode cX12_mostOf 28 = .ok (.goto 15, 3) := by decide +kernel
theorem dX12_mostOf_31 : decode cX12_mostOf 31 = .ok (.iload_n 1, 1) := by decide +kernel
theorem dX12_mostOf_32 : decode cX12_mostOf 32 = .ok (.iconst 3, 1) := by decide +kernel
theorem dX12_mostOf_33 : decode cX12_mostOf 33 = .ok (.if_icmp .ne 8, 3) := by decide +kernel
theorem dX12_mostOf_36 : decode cX12_mostOf 36 = .ok (.bipush 99, 2) := by decide +kernel
theorem dX12_mostOf_38 : decode cX12_mostOf 38 = .ok (.goto 5, 3) := by decide +kernel
theorem dX12_mostOf_41 : decode cX12_mostOf 41 = .ok (.bipush 9, 2) := by decide +kernel
theorem dX12_mostOf_43 : decode cX12_mostOf 43 = .ok (.ireturn, 1) := by decide +kernel
theorem dX12_mostOf_44 : decode cX12_mostOf 44 = .ok (.iload_n 1, 1) := by decide +kernel
theorem dX12_mostOf_45 : decode cX12_mostOf 45 = .ok (.ifCond .ne 8, 3) := by decide +kernel
theorem dX12_mostOf_48 : decode cX12_mostOf 48 = .ok (.bipush 9, 2) := by decide +kernel
theorem dX12_mostOf_50 : decode cX12_mostOf 50 = .ok (.goto 24, 3) := by decide +kernel
theorem dX12_mostOf_53 : decode cX12_mostOf 53 = .ok (.iload_n 1, 1) := by decide +kernel
theorem dX12_mostOf_54 : decode cX12_mostOf 54 = .ok (.iconst 1, 1) := by decide +kernel
theorem dX12_mostOf_55 : decode cX12_mostOf 55 = .ok (.if_icmp .ne 8, 3) := by decide +kernel
theorem dX12_mostOf_58 : decode cX12_mostOf 58 = .ok (.bipush 99, 2) := by decide +kernel
theorem dX12_mostOf_60 : decode cX12_mostOf 60 = .ok (.goto 14, 3) := by decide +kernel
theorem dX12_mostOf_63 : decode cX12_mostOf 63 = .ok (.iload_n 1, 1) := by decide +kernel
theorem dX12_mostOf_64 : decode cX12_mostOf 64 = .ok (.iconst 2, 1) := by decide +kernel
theorem dX12_mostOf_65 : decode cX12_mostOf 65 = .ok (.if_icmp .ne 7, 3) := by decide +kernel
theorem dX12_mostOf_68 : decode cX12_mostOf 68 = .ok (.iconst 4, 1) := by decide +kernel
theorem dX12_mostOf_69 : decode cX12_mostOf 69 = .ok (.goto 5, 3) := by decide +kernel
theorem dX12_mostOf_72 : decode cX12_mostOf 72 = .ok (.bipush 9, 2) := by decide +kernel
theorem dX12_mostOf_74 : decode cX12_mostOf 74 = .ok (.ireturn, 1) := by decide +kernel
def m_mostOf_74 (N : Nat) (s0 : Int) (w : aw_W) : Option (Int × aw_W) :=
  some (s0, w)
theorem w_m_mostOf_74 {l : Launch} {K : aw_K} (N d : Nat) : ∀ (s0 : Int) (w : aw_W) (y : Int) (v : aw_W), m_mostOf_74 N s0 w = some (y, v) → aw_AW l K MX12_mostOf (d) 74 [] [.inl s0] w (some (.inl y), v) := by
  intro s0 w y v h
  unfold m_mostOf_74 at h
  cases h
  exact aw_iret (pc := 74) rfl dX12_mostOf_74
def m_mostOf_43 (N : Nat) (s0 : Int) (w : aw_W) : Option (Int × aw_W) :=
  some (s0, w)
theorem w_m_mostOf_43 {l : Launch} {K : aw_K} (N d : Nat) : ∀ (s0 : Int) (w : aw_W) (y : Int) (v : aw_W), m_mostOf_43 N s0 w = some (y, v) → aw_AW l K MX12_mostOf (d) 43 [] [.inl s0] w (some (.inl y), v) := by
  intro s0 w y v h
  unfold m_mostOf_43 at h
  cases h
  exact aw_iret (pc := 43) rfl dX12_mostOf_43
def m_mostOf (N : Nat) (x0 x1 : Int) (w : aw_W) : Option (Int × aw_W) :=
  if x0 = 0 then
    if x1 = 0 then
      m_mostOf_74 N 9 w
    else
      if x1 = 1 then
        m_mostOf_74 N 99 w
      else
        if x1 = 2 then
          m_mostOf_74 N 4 w
        else
          m_mostOf_74 N 9 w
  else
    if x1 = 0 then
      m_mostOf_43 N 6 w
    else
      if x1 = 1 then
        m_mostOf_43 N 1 w
      else
        if x1 = 2 then
          m_mostOf_43 N 2 w
        else
          if x1 = 3 then
            m_mostOf_43 N 99 w
          else
            m_mostOf_43 N 9 w
theorem w_m_mostOf {l : Launch} {K : aw_K} (N d : Nat) (hd : 0 ≤ d) : ∀ (x0 x1 : Int) (w : aw_W) (y : Int) (v : aw_W), m_mostOf N x0 x1 w = some (y, v) → aw_Met l K MX12_mostOf (d) [.inl x0, .inl x1] w (some (.inl y), v) := by
  intro x0 x1 w y v h
  unfold m_mostOf at h
  refine aw_enter rfl (Nat.le_of_ble_eq_true rfl) ?_
  show aw_AW l K MX12_mostOf (d) 0 [(0, .inl x0), (1, .inl x1)] [] w (some (.inl y), v)
  refine aw_iload_n (pc := 0) (q := 0) dX12_mostOf_0 rfl ?_
  refine aw_if_eq (pc := 1) (tgt := 44) dX12_mostOf_1 (by decide) (fun hc => ?_) (fun hc => ?_)
  · rw [if_pos hc] at h
    refine aw_iload_n (pc := 44) (q := 1) dX12_mostOf_44 rfl ?_
    refine aw_if_ne (pc := 45) (tgt := 53) dX12_mostOf_45 (by decide) (fun hc => ?_) (fun hc => ?_)
    · rw [if_neg hc] at h
      refine aw_iload_n (pc := 53) (q := 1) dX12_mostOf_53 rfl ?_
      refine aw_iconst (pc := 54) dX12_mostOf_54 ⟨by decide, by decide⟩ ?_
      refine aw_icmp_ne (pc := 55) (tgt := 63) dX12_mostOf_55 (by decide) (fun hc => ?_) (fun hc => ?_)
      · rw [if_neg hc] at h
        refine aw_iload_n (pc := 63) (q := 1) dX12_mostOf_63 rfl ?_
        refine aw_iconst (pc := 64) dX12_mostOf_64 ⟨by decide, by decide⟩ ?_
        refine aw_icmp_ne (pc := 65) (tgt := 72) dX12_mostOf_65 (by decide) (fun hc => ?_) (fun hc => ?_)
        · rw [if_neg hc] at h
          refine aw_bipush (pc := 72) dX12_mostOf_72 (by decide) ⟨by decide, by decide⟩ ?_
          exact aw_sel [] rfl (w_m_mostOf_74 N d  _ _ _ _ h)
        · rw [if_pos hc] at h
          refine aw_iconst (pc := 68) dX12_mostOf_68 ⟨by decide, by decide⟩ ?_
          refine aw_goto (pc := 69) (tgt := 74) dX12_mostOf_69 (by decide) ?_
          exact aw_sel [] rfl (w_m_mostOf_74 N d  _ _ _ _ h)
      · rw [if_pos hc] at h
        refine aw_bipush (pc := 58) dX12_mostOf_58 (by decide) ⟨by decide, by decide⟩ ?_
        refine aw_goto (pc := 60) (tgt := 74) dX12_mostOf_60 (by decide) ?_
        exact aw_sel [] rfl (w_m_mostOf_74 N d  _ _ _ _ h)
    · rw [if_pos hc] at h
      refine aw_bipush (pc := 48) dX12_mostOf_48 (by decide) ⟨by decide, by decide⟩ ?_
      refine aw_goto (pc := 50) (tgt := 74) dX12_mostOf_50 (by decide) ?_
      exact aw_sel [] rfl (w_m_mostOf_74 N d  _ _ _ _ h)
  · rw [if_neg hc] at h
    refine aw_iload_n (pc := 4) (q := 1) dX12_mostOf_4 rfl ?_
    refine aw_if_ne (pc := 5) (tgt := 13) dX12_mostOf_5 (by decide) (fun hc => ?_) (fun hc => ?_)
    · rw [if_neg hc] at h
      refine aw_iload_n (pc := 13) (q := 1) dX12_mostOf_13 rfl ?_
      refine aw_iconst (pc := 14) dX12_mostOf_14 ⟨by decide, by decide⟩ ?_
      refine aw_icmp_ne (pc := 15) (tgt := 22) dX12_mostOf_15 (by decide) (fun hc => ?_) (fun hc => ?_)
      · rw [if_neg hc] at h
        refine aw_iload_n (pc := 22) (q := 1) dX12_mostOf_22 rfl ?_
        refine aw_iconst (pc := 23) dX12_mostOf_23 ⟨by decide, by decide⟩ ?_
        refine aw_icmp_ne (pc := 24) (tgt := 31) dX12_mostOf_24 (by decide) (fun hc => ?_) (fun hc => ?_)
        · rw [if_neg hc] at h
          refine aw_iload_n (pc := 31) (q := 1) dX12_mostOf_31 rfl ?_
          refine aw_iconst (pc := 32) dX12_mostOf_32 ⟨by decide, by decide⟩ ?_
          refine aw_icmp_ne (pc := 33) (tgt := 41) dX12_mostOf_33 (by decide) (fun hc => ?_) (fun hc => ?_)
          · rw [if_neg hc] at h
            refine aw_bipush (pc := 41) dX12_mostOf_41 (by decide) ⟨by decide, by decide⟩ ?_
            exact aw_sel [] rfl (w_m_mostOf_43 N d  _ _ _ _ h)
          · rw [if_pos hc] at h
            refine aw_bipush (pc := 36) dX12_mostOf_36 (by decide) ⟨by decide, by decide⟩ ?_
            refine aw_goto (pc := 38) (tgt := 43) dX12_mostOf_38 (by decide) ?_
            exact aw_sel [] rfl (w_m_mostOf_43 N d  _ _ _ _ h)
        · rw [if_pos hc] at h
          refine aw_iconst (pc := 27) dX12_mostOf_27 ⟨by decide, by decide⟩ ?_
          refine aw_goto (pc := 28) (tgt := 43) dX12_mostOf_28 (by decide) ?_
          exact aw_sel [] rfl (w_m_mostOf_43 N d  _ _ _ _ h)
      · rw [if_pos hc] at h
        refine aw_iconst (pc := 18) dX12_mostOf_18 ⟨by decide, by decide⟩ ?_
        refine aw_goto (pc := 19) (tgt := 43) dX12_mostOf_19 (by decide) ?_
        exact aw_sel [] rfl (w_m_mostOf_43 N d  _ _ _ _ h)
    · rw [if_pos hc] at h
      refine aw_bipush (pc := 8) dX12_mostOf_8 (by decide) ⟨by decide, by decide⟩ ?_
      refine aw_goto (pc := 10) (tgt := 43) dX12_mostOf_10 (by decide) ?_
      exact aw_sel [] rfl (w_m_mostOf_43 N d  _ _ _ _ h)
theorem dX12_change_0 : decode cX12_change 0 = .ok (.aload_n 0, 1) := by decide +kernel
theorem dX12_change_1 : decode cX12_change 1 = .ok (.iconst 0, 1) := by decide +kernel
theorem dX12_change_2 : decode cX12_change 2 = .ok (.putfield 99, 3) := by decide +kernel
theorem dX12_change_5 : decode cX12_change 5 = .ok (.aload_n 0, 1) := by decide +kernel
theorem dX12_change_6 : decode cX12_change 6 = .ok (.getfield 270, 3) := by decide +kernel
theorem dX12_change_9 : decode cX12_change 9 = .ok (.ifCond .eq 35, 3) := by decide +kernel
theorem dX12_change_12 : decode cX12_change 12 = .ok (.iload_n 1, 1) := by decide +kernel
theorem dX12_change_13 : decode cX12_change 13 = .ok (.i2l, 1) := by decide +kernel
theorem dX12_change_14 : decode cX12_change 14 = .ok (.lconst 0, 1) := by decide +kernel
theorem dX12_change_15 : decode cX12_change 15 = .ok (.ldc2_w 285, 3) := by decide +kernel
theorem dX12_change_18 : decode cX12_change 18 = .ok (.invokestatic 227, 3) := by decide +kernel
theorem dX12_change_21 : decode cX12_change 21 = .ok (.ifCond .eq 23, 3) := by decide +kernel
theorem dX12_change_24 : decode cX12_change 24 = .ok (.iload_n 2, 1) := by decide +kernel
theorem dX12_change_25 : decode cX12_change 25 = .ok (.i2l, 1) := by decide +kernel
theorem dX12_change_26 : decode cX12_change 26 = .ok (.iconst 1, 1) := by decide +kernel
theorem dX12_change_27 : decode cX12_change 27 = .ok (.iload_n 1, 1) := by decide +kernel
theorem dX12_change_28 : decode cX12_change 28 = .ok (.invokestatic 220, 3) := by decide +kernel
theorem dX12_change_31 : decode cX12_change 31 = .ok (.i2l, 1) := by decide +kernel
theorem dX12_change_32 : decode cX12_change 32 = .ok (.iconst 1, 1) := by decide +kernel
theorem dX12_change_33 : decode cX12_change 33 = .ok (.iload_n 1, 1) := by decide +kernel
theorem dX12_change_34 : decode cX12_change 34 = .ok (.invokestatic 224, 3) := by decide +kernel
theorem dX12_change_37 : decode cX12_change 37 = .ok (.i2l, 1) := by decide +kernel
theorem dX12_change_38 : decode cX12_change 38 = .ok (.invokestatic 227, 3) := by decide +kernel
theorem dX12_change_41 : decode cX12_change 41 = .ok (.ifCond .ne 5, 3) := by decide +kernel
theorem dX12_change_44 : decode cX12_change 44 = .ok (.iconst 0, 1) := by decide +kernel
theorem dX12_change_45 : decode cX12_change 45 = .ok (.ireturn, 1) := by decide +kernel
theorem dX12_change_46 : decode cX12_change 46 = .ok (.aload_n 0, 1) := by decide +kernel
theorem dX12_change_47 : decode cX12_change 47 = .ok (.getfield 43, 3) := by decide +kernel
theorem dX12_change_50 : decode cX12_change 50 = .ok (.iload_n 1, 1) := by decide +kernel
theorem dX12_change_51 : decode cX12_change 51 = .ok (.iload_n 2, 1) := by decide +kernel
theorem dX12_change_52 : decode cX12_change 52 = .ok (.iastore, 1) := by decide +kernel
theorem dX12_change_53 : decode cX12_change 53 = .ok (.iconst 1, 1) := by decide +kernel
theorem dX12_change_54 : decode cX12_change 54 = .ok (.ireturn, 1) := by decide +kernel
def m_change_44 (N : Nat) (w : aw_W) : Option (Int × aw_W) :=
  some (0, w)
theorem w_m_change_44 {l : Launch} {K : aw_K} (N d : Nat) (hd : 0 ≤ d) : ∀ (w : aw_W) (y : Int) (v : aw_W), m_change_44 N w = some (y, v) → aw_AW l K MX12_change (d + 1) 44 [] [] w (some (.inl y), v) := by
  intro w y v h
  unfold m_change_44 at h
  refine aw_iconst (pc := 44) dX12_change_44 ⟨by decide, by decide⟩ ?_
  cases h
  exact aw_zret (pc := 45) rfl (by decide) dX12_change_45
def m_change (N : Nat) (x1 x2 : Int) (w : aw_W) : Option (Int × aw_W) :=
  if (w 49 22) = 0 then
    m_change_44 N (aw_up w 49 0 0)
  else
    aw_b2 (m_isIn N x1 0 4 (aw_up w 49 0 0)) fun r1 w1 =>
      if r1 = 0 then
        m_change_44 N w1
      else
        aw_b2 (m_leastOf N 1 x1 w1) fun r2 w2 =>
          aw_b2 (m_mostOf N 1 x1 w2) fun r3 w3 =>
            aw_b2 (m_isIn N x2 r2 r3 w3) fun r4 w4 =>
              if r4 = 0 then
                m_change_44 N w4
              else
                if 0 ≤ x1 ∧ x1 < 5 then
                  some (1, (aw_up w4 56 x1.toNat x2))
                else none
theorem w_m_change_d {l : Launch} {K : aw_K} (N d : Nat) (hd : 0 ≤ d) : ∀ (x1 x2 : Int) (w : aw_W) (y : Int) (v : aw_W), m_change N x1 x2 w = some (y, v) → aw_Met l K MX12_change (d + 1) [.inr (.inr 49), .inl x1, .inl x2] w (some (.inl y), v) := by
  intro x1 x2 w y v h
  unfold m_change at h
  refine aw_enter rfl (Nat.le_of_ble_eq_true rfl) ?_
  show aw_AW l K MX12_change (d + 1) 0 [(0, .inr (.inr 49)), (1, .inl x1), (2, .inl x2)] [] w (some (.inl y), v)
  refine aw_aload_n (pc := 0) (q := 0) dX12_change_0 rfl ?_
  refine aw_iconst (pc := 1) dX12_change_1 ⟨by decide, by decide⟩ ?_
  refine aw_puti (pc := 2) dX12_change_2 fp_RX12_99 (by decide) rfl rfl ?_
  refine aw_aload_n (pc := 5) (q := 0) dX12_change_5 rfl ?_
  refine aw_getf (pc := 6) (v := .inl (w 49 22)) dX12_change_6 fl_RX12_270 (by decide) rfl rfl rfl ?_
  refine aw_if_eq (pc := 9) (tgt := 44) dX12_change_9 (by decide) (fun hc => ?_) (fun hc => ?_)
  · rw [if_pos hc] at h
    exact aw_sel [] rfl (w_m_change_44 N d hd  _ _ _ h)
  · rw [if_neg hc] at h
    refine aw_iload_n (pc := 12) (q := 1) dX12_change_12 rfl ?_
    refine aw_i2l (pc := 13) dX12_change_13 ?_
    refine aw_lconst (pc := 14) (x := 0) dX12_change_14 (by decide) ⟨by decide, by decide⟩ ?_
    refine aw_ldc2 (pc := 15) (x := 4) dX12_change_15 cl_RX12_285 ⟨by decide, by decide⟩ ?_
    obtain ⟨r1, w1, h1, h⟩ := aw_b2s h
    refine aw_callS (pc := 18) (as := [.inr (.inl x1), .inr (.inl 0), .inr (.inl 4)]) (st := []) (st' := [.inl r1]) dX12_change_18 cs_RX12_227 rfl rfl (Nat.le_of_ble_eq_true rfl) (w_m_isIn N d (by omega) _ _ _ _ _ _ h1) rfl ?_
    refine aw_if_eq (pc := 21) (tgt := 44) dX12_change_21 (by decide) (fun hc => ?_) (fun hc => ?_)
    · rw [if_pos hc] at h
      exact aw_sel [] rfl (w_m_change_44 N d hd  _ _ _ h)
    · rw [if_neg hc] at h
      refine aw_iload_n (pc := 24) (q := 2) dX12_change_24 rfl ?_
      refine aw_i2l (pc := 25) dX12_change_25 ?_
      refine aw_iconst (pc := 26) dX12_change_26 ⟨by decide, by decide⟩ ?_
      refine aw_iload_n (pc := 27) (q := 1) dX12_change_27 rfl ?_
      obtain ⟨r2, w2, h2, h⟩ := aw_b2s h
      refine aw_callS (pc := 28) (as := [.inl 1, .inl x1]) (st := [.inr (.inl x2)]) (st' := [.inl r2, .inr (.inl x2)]) dX12_change_28 cs_RX12_220 rfl rfl (Nat.le_of_ble_eq_true rfl) (w_m_leastOf N d (by omega) _ _ _ _ _ h2) rfl ?_
      refine aw_i2l (pc := 31) dX12_change_31 ?_
      refine aw_iconst (pc := 32) dX12_change_32 ⟨by decide, by decide⟩ ?_
      refine aw_iload_n (pc := 33) (q := 1) dX12_change_33 rfl ?_
      obtain ⟨r3, w3, h3, h⟩ := aw_b2s h
      refine aw_callS (pc := 34) (as := [.inl 1, .inl x1]) (st := [.inr (.inl r2), .inr (.inl x2)]) (st' := [.inl r3, .inr (.inl r2), .inr (.inl x2)]) dX12_change_34 cs_RX12_224 rfl rfl (Nat.le_of_ble_eq_true rfl) (w_m_mostOf N d (by omega) _ _ _ _ _ h3) rfl ?_
      refine aw_i2l (pc := 37) dX12_change_37 ?_
      obtain ⟨r4, w4, h4, h⟩ := aw_b2s h
      refine aw_callS (pc := 38) (as := [.inr (.inl x2), .inr (.inl r2), .inr (.inl r3)]) (st := []) (st' := [.inl r4]) dX12_change_38 cs_RX12_227 rfl rfl (Nat.le_of_ble_eq_true rfl) (w_m_isIn N d (by omega) _ _ _ _ _ _ h4) rfl ?_
      refine aw_if_ne (pc := 41) (tgt := 46) dX12_change_41 (by decide) (fun hc => ?_) (fun hc => ?_)
      · rw [if_neg hc] at h
        refine aw_aload_n (pc := 46) (q := 0) dX12_change_46 rfl ?_
        refine aw_getf (pc := 47) (v := .inr (.inr 56)) dX12_change_47 fl_RX12_43 (by decide) rfl rfl rfl ?_
        refine aw_iload_n (pc := 50) (q := 1) dX12_change_50 rfl ?_
        refine aw_iload_n (pc := 51) (q := 2) dX12_change_51 rfl ?_
        obtain ⟨hb, h⟩ := aw_cks h
        refine aw_iast (pc := 52) dX12_change_52 rfl hb.1 hb.2 ?_
        refine aw_iconst (pc := 53) dX12_change_53 ⟨by decide, by decide⟩ ?_
        cases h
        exact aw_zret (pc := 54) rfl (by decide) dX12_change_54
      · rw [if_pos hc] at h
        exact aw_sel [] rfl (w_m_change_44 N d hd  _ _ _ h)
theorem w_m_change {l : Launch} {K : aw_K} (N d : Nat) (hd : 1 ≤ d) : ∀ (x1 x2 : Int) (w : aw_W) (y : Int) (v : aw_W), m_change N x1 x2 w = some (y, v) → aw_Met l K MX12_change (d) [.inr (.inr 49), .inl x1, .inl x2] w (some (.inl y), v) := by
  obtain ⟨e, rfl⟩ : ∃ e, d = e + 1 := ⟨d - 1, by omega⟩
  exact w_m_change_d N e (by omega)
theorem dX12_hasBy_0 : decode cX12_hasBy 0 = .ok (.aload_n 0, 1) := by decide +kernel
theorem dX12_hasBy_1 : decode cX12_hasBy 1 = .ok (.getfield 72, 3) := by decide +kernel
theorem dX12_hasBy_4 : decode cX12_hasBy 4 = .ok (.iload_n 1, 1) := by decide +kernel
theorem dX12_hasBy_5 : decode cX12_hasBy 5 = .ok (.iaload, 1) := by decide +kernel
theorem dX12_hasBy_6 : decode cX12_hasBy 6 = .ok (.istore_n 3, 1) := by decide +kernel
theorem dX12_hasBy_7 : decode cX12_hasBy 7 = .ok (.aload_n 0, 1) := by decide +kernel
theorem dX12_hasBy_8 : decode cX12_hasBy 8 = .ok (.getfield 72, 3) := by decide +kernel
theorem dX12_hasBy_11 : decode cX12_hasBy 11 = .ok (.iload_n 1, 1) := by decide +kernel
theorem dX12_hasBy_12 : decode cX12_hasBy 12 = .ok (.iload_n 2, 1) := by decide +kernel
theorem dX12_hasBy_13 : decode cX12_hasBy 13 = .ok (.iastore, 1) := by decide +kernel
theorem dX12_hasBy_14 : decode cX12_hasBy 14 = .ok (.aload_n 0, 1) := by decide +kernel
theorem dX12_hasBy_15 : decode cX12_hasBy 15 = .ok (.invokevirtual 326, 3) := by decide +kernel
theorem dX12_hasBy_18 : decode cX12_hasBy 18 = .ok (.aload_n 0, 1) := by decide +kernel
theorem dX12_hasBy_19 : decode cX12_hasBy 19 = .ok (.invokevirtual 320, 3) := by decide +kernel
theorem dX12_hasBy_22 : decode cX12_hasBy 22 = .ok (.iload_n 1, 1) := by decide +kernel
theorem dX12_hasBy_23 : decode cX12_hasBy 23 = .ok (.if_icmp .ne 7, 3) := by decide +kernel
theorem dX12_hasBy_26 : decode cX12_hasBy 26 = .ok (.iconst 1, 1) := by decide +kernel
theorem dX12_hasBy_27 : decode cX12_hasBy 27 = .ok (.goto 4, 3) := by decide +kernel
theorem dX12_hasBy_30 : decode cX12_hasBy 30 = .ok (.iconst 0, 1) := by decide +kernel
theorem dX12_hasBy_31 : decode cX12_hasBy 31 = .ok (.istore 4, 2) := by decide +kernel
theorem dX12_hasBy_33 : decode cX12_hasBy 33 = .ok (.aload_n 0, 1) := by decide +kernel
theorem dX12_hasBy_34 : decode cX12_hasBy 34 = .ok (.getfield 72, 3) := by decide +kernel
theorem dX12_hasBy_37 : decode cX12_hasBy 37 = .ok (.iload_n 1, 1) := by decide +kernel
theorem dX12_hasBy_38 : decode cX12_hasBy 38 = .ok (.iload_n 3, 1) := by decide +kernel
theorem dX12_hasBy_39 : decode cX12_hasBy 39 = .ok (.iastore, 1) := by decide +kernel
theorem dX12_hasBy_40 : decode cX12_hasBy 40 = .ok (.iload 4, 2) := by decide +kernel
theorem dX12_hasBy_42 : decode cX12_hasBy 42 = .ok (.ireturn, 1) := by decide +kernel
def m_hasBy_31 (N : Nat) (x1 x3 s0 : Int) (w : aw_W) : Option (Int × aw_W) :=
  if 0 ≤ x1 ∧ x1 < 6 then
    if s0 = 0 ∨ s0 = 1 then
      some (s0, (aw_up w 64 x1.toNat x3))
    else none
  else none
theorem w_m_hasBy_31 {l : Launch} {K : aw_K} (N d : Nat) (hd : 2 ≤ d) : ∀ (x1 x3 s0 : Int) (w : aw_W) (y : Int) (v : aw_W), m_hasBy_31 N x1 x3 s0 w = some (y, v) → aw_AW l K MX12_hasBy (d + 1) 31 [(0, .inr (.inr 49)), (1, .inl x1), (3, .inl x3)] [.inl s0] w (some (.inl y), v) := by
  intro x1 x3 s0 w y v h
  unfold m_hasBy_31 at h
  refine aw_istore (pc := 31) (ls' := [(4, .inl s0), (0, .inr (.inr 49)), (1, .inl x1), (3, .inl x3)]) dX12_hasBy_31 (by decide) rfl ?_
  refine aw_aload_n (pc := 33) (q := 1) dX12_hasBy_33 rfl ?_
  refine aw_getf (pc := 34) (v := .inr (.inr 64)) dX12_hasBy_34 fl_RX12_72 (by decide) rfl rfl rfl ?_
  refine aw_iload_n (pc := 37) (q := 2) dX12_hasBy_37 rfl ?_
  refine aw_iload_n (pc := 38) (q := 3) dX12_hasBy_38 rfl ?_
  obtain ⟨hb, h⟩ := aw_cks h
  refine aw_iast (pc := 39) dX12_hasBy_39 rfl hb.1 hb.2 ?_
  refine aw_iload (pc := 40) (q := 0) dX12_hasBy_40 rfl ?_
  obtain ⟨hz, h⟩ := aw_cks h
  cases h
  exact aw_zret (pc := 42) rfl hz dX12_hasBy_42
def m_hasBy (N : Nat) (x1 x2 : Int) (w : aw_W) : Option (Int × aw_W) :=
  if 0 ≤ x1 ∧ x1 < 6 then
    if 0 ≤ x1 ∧ x1 < 6 then
      aw_b1 (m_judge N (aw_up w 64 x1.toNat x2)) fun w1 =>
        aw_b2 (m_winner N w1) fun r2 w2 =>
          if r2 = x1 then
            m_hasBy_31 N x1 (w 64 x1.toNat) 1 w2
          else
            m_hasBy_31 N x1 (w 64 x1.toNat) 0 w2
    else none
  else none
theorem w_m_hasBy_d {l : Launch} {K : aw_K} (N d : Nat) (hd : 2 ≤ d) : ∀ (x1 x2 : Int) (w : aw_W) (y : Int) (v : aw_W), m_hasBy N x1 x2 w = some (y, v) → aw_Met l K MX12_hasBy (d + 1) [.inr (.inr 49), .inl x1, .inl x2] w (some (.inl y), v) := by
  intro x1 x2 w y v h
  unfold m_hasBy at h
  refine aw_enter rfl (Nat.le_of_ble_eq_true rfl) ?_
  show aw_AW l K MX12_hasBy (d + 1) 0 [(0, .inr (.inr 49)), (1, .inl x1), (2, .inl x2)] [] w (some (.inl y), v)
  refine aw_aload_n (pc := 0) (q := 0) dX12_hasBy_0 rfl ?_
  refine aw_getf (pc := 1) (v := .inr (.inr 64)) dX12_hasBy_1 fl_RX12_72 (by decide) rfl rfl rfl ?_
  refine aw_iload_n (pc := 4) (q := 1) dX12_hasBy_4 rfl ?_
  obtain ⟨hb, h⟩ := aw_cks h
  refine aw_ialdv (pc := 5) (v := w 64 x1.toNat) dX12_hasBy_5 rfl hb.1 hb.2 rfl ?_
  refine aw_istore_n (pc := 6) (ls' := [(3, .inl (w 64 x1.toNat)), (0, .inr (.inr 49)), (1, .inl x1), (2, .inl x2)]) dX12_hasBy_6 (by decide) rfl ?_
  refine aw_aload_n (pc := 7) (q := 1) dX12_hasBy_7 rfl ?_
  refine aw_getf (pc := 8) (v := .inr (.inr 64)) dX12_hasBy_8 fl_RX12_72 (by decide) rfl rfl rfl ?_
  refine aw_iload_n (pc := 11) (q := 2) dX12_hasBy_11 rfl ?_
  refine aw_iload_n (pc := 12) (q := 3) dX12_hasBy_12 rfl ?_
  obtain ⟨hb, h⟩ := aw_cks h
  refine aw_iast (pc := 13) dX12_hasBy_13 rfl hb.1 hb.2 ?_
  refine aw_aload_n (pc := 14) (q := 1) dX12_hasBy_14 rfl ?_
  obtain ⟨w1, h1, h⟩ := aw_b1s h
  refine aw_callV (pc := 15) (as := []) (st := []) (st' := []) dX12_hasBy_15 cv_RX12_326 (by decide) rfl rfl rfl rfl (Nat.le_of_ble_eq_true rfl) (w_m_judge N d (by omega) _ _ h1) rfl ?_
  refine aw_aload_n (pc := 18) (q := 1) dX12_hasBy_18 rfl ?_
  obtain ⟨r2, w2, h2, h⟩ := aw_b2s h
  refine aw_callV (pc := 19) (as := []) (st := []) (st' := [.inl r2]) dX12_hasBy_19 cv_RX12_320 (by decide) rfl rfl rfl rfl (Nat.le_of_ble_eq_true rfl) (w_m_winner N d (by omega) _ _ _ h2) rfl ?_
  refine aw_iload_n (pc := 22) (q := 2) dX12_hasBy_22 rfl ?_
  refine aw_icmp_ne (pc := 23) (tgt := 30) dX12_hasBy_23 (by decide) (fun hc => ?_) (fun hc => ?_)
  · rw [if_neg hc] at h
    refine aw_iconst (pc := 30) dX12_hasBy_30 ⟨by decide, by decide⟩ ?_
    exact aw_sel [1, 2, 0] rfl (w_m_hasBy_31 N d hd  _ _ _ _ _ _ h)
  · rw [if_pos hc] at h
    refine aw_iconst (pc := 26) dX12_hasBy_26 ⟨by decide, by decide⟩ ?_
    refine aw_goto (pc := 27) (tgt := 31) dX12_hasBy_27 (by decide) ?_
    exact aw_sel [1, 2, 0] rfl (w_m_hasBy_31 N d hd  _ _ _ _ _ _ h)
theorem w_m_hasBy {l : Launch} {K : aw_K} (N d : Nat) (hd : 3 ≤ d) : ∀ (x1 x2 : Int) (w : aw_W) (y : Int) (v : aw_W), m_hasBy N x1 x2 w = some (y, v) → aw_Met l K MX12_hasBy (d) [.inr (.inr 49), .inl x1, .inl x2] w (some (.inl y), v) := by
  obtain ⟨e, rfl⟩ : ∃ e, d = e + 1 := ⟨d - 1, by omega⟩
  exact w_m_hasBy_d N e (by omega)
theorem dX12_changes_0 : decode cX12_changes 0 = .ok (.aload_n 0, 1) := by decide +kernel
theorem dX12_changes_1 : decode cX12_changes 1 = .ok (.iconst 0, 1) := by decide +kernel
theorem dX12_changes_2 : decode cX12_changes 2 = .ok (.putfield 99, 3) := by decide +kernel
theorem dX12_changes_5 : decode cX12_changes 5 = .ok (.aload_n 0, 1) := by decide +kernel
theorem dX12_changes_6 : decode cX12_changes 6 = .ok (.getfield 270, 3) := by decide +kernel
theorem dX12_changes_9 : decode cX12_changes 9 = .ok (.ifCond .eq 11, 3) := by decide +kernel
theorem dX12_changes_12 : decode cX12_changes 12 = .ok (.aload_n 0, 1) := by decide +kernel
theorem dX12_changes_13 : decode cX12_changes 13 = .ok (.iload_n 1, 1) := by decide +kernel
theorem dX12_changes_14 : decode cX12_changes 14 = .ok (.invokevirtual 342, 3) := by decide +kernel
theorem dX12_changes_17 : decode cX12_changes 17 = .ok (.ifCond .ne 5, 3) := by decide +kernel
theorem dX12_changes_20 : decode cX12_changes 20 = .ok (.iconst (-1), 1) := by decide +kernel
theorem dX12_changes_21 : decode cX12_changes 21 = .ok (.ireturn, 1) := by decide +kernel
theorem dX12_changes_22 : decode cX12_changes 22 = .ok (.iconst 0, 1) := by decide +kernel
theorem dX12_changes_23 : decode cX12_changes 23 = .ok (.istore_n 2, 1) := by decide +kernel
theorem dX12_changes_24 : decode cX12_changes 24 = .ok (.iconst 0, 1) := by decide +kernel
theorem dX12_changes_25 : decode cX12_changes 25 = .ok (.istore_n 3, 1) := by decide +kernel
theorem dX12_changes_26 : decode cX12_changes 26 = .ok (.iload_n 3, 1) := by decide +kernel
theorem dX12_changes_27 : decode cX12_changes 27 = .ok (.aload_n 0, 1) := by decide +kernel
theorem dX12_changes_28 : decode cX12_changes 28 = .ok (.getfield 270, 3) := by decide +kernel
theorem dX12_changes_31 : decode cX12_changes 31 = .ok (.if_icmp .ge 84, 3) := by decide +kernel
theorem dX12_changes_34 : decode cX12_changes 34 = .ok (.aload_n 0, 1) := by decide +kernel
theorem dX12_changes_35 : decode cX12_changes 35 = .ok (.iload_n 3, 1) := by decide +kernel
theorem dX12_changes_36 : decode cX12_changes 36 = .ok (.aload_n 0, 1) := by decide +kernel
theorem dX12_changes_37 : decode cX12_changes 37 = .ok (.getfield 72, 3) := by decide +kernel
theorem dX12_changes_40 : decode cX12_changes 40 = .ok (.iload_n 3, 1) := by decide +kernel
theorem dX12_changes_41 : decode cX12_changes 41 = .ok (.iaload, 1) := by decide +kernel
theorem dX12_changes_42 : decode cX12_changes 42 = .ok (.invokevirtual 439, 3) := by decide +kernel
theorem dX12_changes_45 : decode cX12_changes 45 = .ok (.ifCond .eq 6, 3) := by decide +kernel
theorem dX12_changes_48 : decode cX12_changes 48 = .ok (.goto 61, 3) := by decide +kernel
theorem dX12_changes_51 : decode cX12_changes 51 = .ok (.iconst 0, 1) := by decide +kernel
theorem dX12_changes_52 : decode cX12_changes 52 = .ok (.istore 4, 2) := by decide +kernel
theorem dX12_changes_54 : decode cX12_changes 54 = .ok (.iconst 0, 1) := by decide +kernel
theorem dX12_changes_55 : decode cX12_changes 55 = .ok (.istore 5, 2) := by decide +kernel
theorem dX12_changes_57 : decode cX12_changes 57 = .ok (.iload 5, 2) := by decide +kernel
theorem dX12_changes_59 : decode cX12_changes 59 = .ok (.aload_n 0, 1) := by decide +kernel
theorem dX12_changes_60 : decode cX12_changes 60 = .ok (.getfield 43, 3) := by decide +kernel
theorem dX12_changes_63 : decode cX12_changes 63 = .ok (.iconst 4, 1) := by decide +kernel
theorem dX12_changes_64 : decode cX12_changes 64 = .ok (.iaload, 1) := by decide +kernel
theorem dX12_changes_65 : decode cX12_changes 65 = .ok (.if_icmp .gt 31, 3) := by decide +kernel
theorem dX12_changes_68 : decode cX12_changes 68 = .ok (.iload 4, 2) := by decide +kernel
theorem dX12_changes_70 : decode cX12_changes 70 = .ok (.ifCond .ne 13, 3) := by decide +kernel
theorem dX12_changes_73 : decode cX12_changes 73 = .ok (.aload_n 0, 1) := by decide +kernel
theorem dX12_changes_74 : decode cX12_changes 74 = .ok (.iload_n 3, 1) := by decide +kernel
theorem dX12_changes_75 : decode cX12_changes 75 = .ok (.iload 5, 2) := by decide +kernel
theorem dX12_changes_77 : decode cX12_changes 77 = .ok (.invokevirtual 439, 3) := by decide +kernel
theorem dX12_changes_80 : decode cX12_changes 80 = .ok (.ifCond .eq 7, 3) := by decide +kernel
theorem dX12_changes_83 : decode cX12_changes 83 = .ok (.iconst 1, 1) := by decide +kernel
theorem dX12_changes_84 : decode cX12_changes 84 = .ok (.goto 4, 3) := by decide +kernel
theorem dX12_changes_87 : decode cX12_changes 87 = .ok (.iconst 0, 1) := by decide +kernel
theorem dX12_changes_88 : decode cX12_changes 88 = .ok (.istore 4, 2) := by decide +kernel
theorem dX12_changes_90 : decode cX12_changes 90 = .ok (.iinc 5 1, 3) := by decide +kernel
theorem dX12_changes_93 : decode cX12_changes 93 = .ok (.goto (-36), 3) := by decide +kernel
theorem dX12_changes_96 : decode cX12_changes 96 = .ok (.iload_n 2, 1) := by decide +kernel
theorem dX12_changes_97 : decode cX12_changes 97 = .ok (.iload 4, 2) := by decide +kernel
theorem dX12_changes_99 : decode cX12_changes 99 = .ok (.ifCond .eq 7, 3) := by decide +kernel
theorem dX12_changes_102 : decode cX12_changes 102 = .ok (.iconst 1, 1) := by decide +kernel
theorem dX12_changes_103 : decode cX12_changes 103 = .ok (.goto 4, 3) := by decide +kernel
theorem dX12_changes_106 : decode cX12_changes 106 = .ok (.iconst 0, 1) := by decide +kernel
theorem dX12_changes_107 : decode cX12_changes 107 = .ok (.iadd, 1) := by decide +kernel
theorem dX12_changes_108 : decode cX12_changes 108 = .ok (.istore_n 2, 1) := by decide +kernel
theorem dX12_changes_109 : decode cX12_changes 109 = .ok (.iinc 3 1, 3) := by decide +kernel
theorem dX12_changes_112 : decode cX12_changes 112 = .ok (.goto (-86), 3) := by decide +kernel
theorem dX12_changes_115 : decode cX12_changes 115 = .ok (.iload_n 2, 1) := by decide +kernel
theorem dX12_changes_116 : decode cX12_changes 116 = .ok (.ireturn, 1) := by decide +kernel
def m_changes_20 (N : Nat) (w : aw_W) : Option (Int × aw_W) :=
  some ((-1), w)
theorem w_m_changes_20 {l : Launch} {K : aw_K} (N d : Nat) (hd : 3 ≤ d) : ∀ (w : aw_W) (y : Int) (v : aw_W), m_changes_20 N w = some (y, v) → aw_AW l K MX12_changes (d + 1) 20 [] [] w (some (.inl y), v) := by
  intro w y v h
  unfold m_changes_20 at h
  refine aw_iconst (pc := 20) dX12_changes_20 ⟨by decide, by decide⟩ ?_
  cases h
  exact aw_iret (pc := 21) rfl dX12_changes_21
def m_changes_115 (N : Nat) (x2 : Int) (w : aw_W) : Option (Int × aw_W) :=
  some (x2, w)
theorem w_m_changes_115 {l : Launch} {K : aw_K} (N d : Nat) (hd : 3 ≤ d) : ∀ (x2 : Int) (w : aw_W) (y : Int) (v : aw_W), m_changes_115 N x2 w = some (y, v) → aw_AW l K MX12_changes (d + 1) 115 [(2, .inl x2)] [] w (some (.inl y), v) := by
  intro x2 w y v h
  unfold m_changes_115 at h
  refine aw_iload_n (pc := 115) (q := 0) dX12_changes_115 rfl ?_
  cases h
  exact aw_iret (pc := 116) rfl dX12_changes_116
def m_changes_109 (N : Nat) (k26 : Int → Int → aw_W → Option (Int × aw_W)) (x2 x3 : Int) (w : aw_W) : Option (Int × aw_W) :=
  k26 x2 (aw_w (x3 + 1)) w
theorem w_m_changes_109 {l : Launch} {K : aw_K} (N d : Nat) (hd : 3 ≤ d) (k26 : Int → Int → aw_W → Option (Int × aw_W)) (hk26 : ∀ (x2 x3 : Int) (w : aw_W) (y : Int) (v : aw_W), k26 x2 x3 w = some (y, v) → aw_AW l K MX12_changes (d + 1) 26 [(0, .inr (.inr 49)), (2, .inl x2), (3, .inl x3)] [] w (some (.inl y), v)) : ∀ (x2 x3 : Int) (w : aw_W) (y : Int) (v : aw_W), m_changes_109 N k26 x2 x3 w = some (y, v) → aw_AW l K MX12_changes (d + 1) 109 [(0, .inr (.inr 49)), (2, .inl x2), (3, .inl x3)] [] w (some (.inl y), v) := by
  intro x2 x3 w y v h
  unfold m_changes_109 at h
  refine aw_iinc (pc := 109) (q := 2) (ls' := [(3, .inl (aw_w (x3 + 1))), (0, .inr (.inr 49)), (2, .inl x2)]) dX12_changes_109 rfl (by decide) rfl ?_
  refine aw_goto (pc := 112) (tgt := 26) dX12_changes_112 (by decide) ?_
  exact aw_sel [1, 2, 0] rfl (hk26 _ _ _ _ _ h)
def m_changes_107 (N : Nat) (k26 : Int → Int → aw_W → Option (Int × aw_W)) (x3 s0 s1 : Int) (w : aw_W) : Option (Int × aw_W) :=
  m_changes_109 N k26 (aw_w (s1 + s0)) x3 w
theorem w_m_changes_107 {l : Launch} {K : aw_K} (N d : Nat) (hd : 3 ≤ d) (k26 : Int → Int → aw_W → Option (Int × aw_W)) (hk26 : ∀ (x2 x3 : Int) (w : aw_W) (y : Int) (v : aw_W), k26 x2 x3 w = some (y, v) → aw_AW l K MX12_changes (d + 1) 26 [(0, .inr (.inr 49)), (2, .inl x2), (3, .inl x3)] [] w (some (.inl y), v)) : ∀ (x3 s0 s1 : Int) (w : aw_W) (y : Int) (v : aw_W), m_changes_107 N k26 x3 s0 s1 w = some (y, v) → aw_AW l K MX12_changes (d + 1) 107 [(0, .inr (.inr 49)), (3, .inl x3)] [.inl s0, .inl s1] w (some (.inl y), v) := by
  intro x3 s0 s1 w y v h
  unfold m_changes_107 at h
  refine aw_iadd (pc := 107) dX12_changes_107 ?_
  refine aw_istore_n (pc := 108) (ls' := [(2, .inl (aw_w (s1 + s0))), (0, .inr (.inr 49)), (3, .inl x3)]) dX12_changes_108 (by decide) rfl ?_
  exact aw_sel [1, 0, 2] rfl (w_m_changes_109 N d hd  _ hk26 _ _ _ _ _ h)
def m_changes_96 (N : Nat) (k26 : Int → Int → aw_W → Option (Int × aw_W)) (x2 x3 x4 : Int) (w : aw_W) : Option (Int × aw_W) :=
  if x4 = 0 then
    m_changes_107 N k26 x3 0 x2 w
  else
    m_changes_107 N k26 x3 1 x2 w
theorem w_m_changes_96 {l : Launch} {K : aw_K} (N d : Nat) (hd : 3 ≤ d) (k26 : Int → Int → aw_W → Option (Int × aw_W)) (hk26 : ∀ (x2 x3 : Int) (w : aw_W) (y : Int) (v : aw_W), k26 x2 x3 w = some (y, v) → aw_AW l K MX12_changes (d + 1) 26 [(0, .inr (.inr 49)), (2, .inl x2), (3, .inl x3)] [] w (some (.inl y), v)) : ∀ (x2 x3 x4 : Int) (w : aw_W) (y : Int) (v : aw_W), m_changes_96 N k26 x2 x3 x4 w = some (y, v) → aw_AW l K MX12_changes (d + 1) 96 [(0, .inr (.inr 49)), (2, .inl x2), (3, .inl x3), (4, .inl x4)] [] w (some (.inl y), v) := by
  intro x2 x3 x4 w y v h
  unfold m_changes_96 at h
  refine aw_iload_n (pc := 96) (q := 1) dX12_changes_96 rfl ?_
  refine aw_iload (pc := 97) (q := 3) dX12_changes_97 rfl ?_
  refine aw_if_eq (pc := 99) (tgt := 106) dX12_changes_99 (by decide) (fun hc => ?_) (fun hc => ?_)
  · rw [if_pos hc] at h
    refine aw_iconst (pc := 106) dX12_changes_106 ⟨by decide, by decide⟩ ?_
    exact aw_sel [0, 2] rfl (w_m_changes_107 N d hd  _ hk26 _ _ _ _ _ _ h)
  · rw [if_neg hc] at h
    refine aw_iconst (pc := 102) dX12_changes_102 ⟨by decide, by decide⟩ ?_
    refine aw_goto (pc := 103) (tgt := 107) dX12_changes_103 (by decide) ?_
    exact aw_sel [0, 2] rfl (w_m_changes_107 N d hd  _ hk26 _ _ _ _ _ _ h)
def m_changes_88 (N : Nat) (k26 : Int → Int → aw_W → Option (Int × aw_W)) (k57 : Int → Int → Int → Int → aw_W → Option (Int × aw_W)) (x2 x3 x5 s0 : Int) (w : aw_W) : Option (Int × aw_W) :=
  k57 x2 x3 s0 (aw_w (x5 + 1)) w
theorem w_m_changes_88 {l : Launch} {K : aw_K} (N d : Nat) (hd : 3 ≤ d) (k26 : Int → Int → aw_W → Option (Int × aw_W)) (hk26 : ∀ (x2 x3 : Int) (w : aw_W) (y : Int) (v : aw_W), k26 x2 x3 w = some (y, v) → aw_AW l K MX12_changes (d + 1) 26 [(0, .inr (.inr 49)), (2, .inl x2), (3, .inl x3)] [] w (some (.inl y), v)) (k57 : Int → Int → Int → Int → aw_W → Option (Int × aw_W)) (hk57 : ∀ (x2 x3 x4 x5 : Int) (w : aw_W) (y : Int) (v : aw_W), k57 x2 x3 x4 x5 w = some (y, v) → aw_AW l K MX12_changes (d + 1) 57 [(0, .inr (.inr 49)), (2, .inl x2), (3, .inl x3), (4, .inl x4), (5, .inl x5)] [] w (some (.inl y), v)) : ∀ (x2 x3 x5 s0 : Int) (w : aw_W) (y : Int) (v : aw_W), m_changes_88 N k26 k57 x2 x3 x5 s0 w = some (y, v) → aw_AW l K MX12_changes (d + 1) 88 [(0, .inr (.inr 49)), (2, .inl x2), (3, .inl x3), (5, .inl x5)] [.inl s0] w (some (.inl y), v) := by
  intro x2 x3 x5 s0 w y v h
  unfold m_changes_88 at h
  refine aw_istore (pc := 88) (ls' := [(4, .inl s0), (0, .inr (.inr 49)), (2, .inl x2), (3, .inl x3), (5, .inl x5)]) dX12_changes_88 (by decide) rfl ?_
  refine aw_iinc (pc := 90) (q := 4) (ls' := [(5, .inl (aw_w (x5 + 1))), (4, .inl s0), (0, .inr (.inr 49)), (2, .inl x2), (3, .inl x3)]) dX12_changes_90 rfl (by decide) rfl ?_
  refine aw_goto (pc := 93) (tgt := 57) dX12_changes_93 (by decide) ?_
  exact aw_sel [2, 3, 4, 1, 0] rfl (hk57 _ _ _ _ _ _ _ h)
def m_changes_83 (N : Nat) (k26 : Int → Int → aw_W → Option (Int × aw_W)) (k57 : Int → Int → Int → Int → aw_W → Option (Int × aw_W)) (x2 x3 x5 : Int) (w : aw_W) : Option (Int × aw_W) :=
  m_changes_88 N k26 k57 x2 x3 x5 1 w
theorem w_m_changes_83 {l : Launch} {K : aw_K} (N d : Nat) (hd : 3 ≤ d) (k26 : Int → Int → aw_W → Option (Int × aw_W)) (hk26 : ∀ (x2 x3 : Int) (w : aw_W) (y : Int) (v : aw_W), k26 x2 x3 w = some (y, v) → aw_AW l K MX12_changes (d + 1) 26 [(0, .inr (.inr 49)), (2, .inl x2), (3, .inl x3)] [] w (some (.inl y), v)) (k57 : Int → Int → Int → Int → aw_W → Option (Int × aw_W)) (hk57 : ∀ (x2 x3 x4 x5 : Int) (w : aw_W) (y : Int) (v : aw_W), k57 x2 x3 x4 x5 w = some (y, v) → aw_AW l K MX12_changes (d + 1) 57 [(0, .inr (.inr 49)), (2, .inl x2), (3, .inl x3), (4, .inl x4), (5, .inl x5)] [] w (some (.inl y), v)) : ∀ (x2 x3 x5 : Int) (w : aw_W) (y : Int) (v : aw_W), m_changes_83 N k26 k57 x2 x3 x5 w = some (y, v) → aw_AW l K MX12_changes (d + 1) 83 [(0, .inr (.inr 49)), (2, .inl x2), (3, .inl x3), (5, .inl x5)] [] w (some (.inl y), v) := by
  intro x2 x3 x5 w y v h
  unfold m_changes_83 at h
  refine aw_iconst (pc := 83) dX12_changes_83 ⟨by decide, by decide⟩ ?_
  refine aw_goto (pc := 84) (tgt := 88) dX12_changes_84 (by decide) ?_
  exact aw_sel [0, 1, 2, 3] rfl (w_m_changes_88 N d hd  _ hk26 _ hk57 _ _ _ _ _ _ _ h)
def m_changes_57 (N : Nat) (k26 : Int → Int → aw_W → Option (Int × aw_W)) : Nat → Int → Int → Int → Int → aw_W → Option (Int × aw_W)
  | 0, _, _, _, _, _ => none
  | n + 1, x2, x3, x4, x5, w =>
    if (w 56 4) < x5 then
      m_changes_96 N k26 x2 x3 x4 w
    else
      if x4 = 0 then
        aw_b2 (m_hasBy N x3 x5 w) fun r1 w1 =>
          if r1 = 0 then
            m_changes_88 N k26 (m_changes_57 N k26 n) x2 x3 x5 0 w1
          else
            m_changes_83 N k26 (m_changes_57 N k26 n) x2 x3 x5 w1
      else
        m_changes_83 N k26 (m_changes_57 N k26 n) x2 x3 x5 w
theorem w_m_changes_57 {l : Launch} {K : aw_K} (N d : Nat) (hd : 3 ≤ d) (k26 : Int → Int → aw_W → Option (Int × aw_W)) (hk26 : ∀ (x2 x3 : Int) (w : aw_W) (y : Int) (v : aw_W), k26 x2 x3 w = some (y, v) → aw_AW l K MX12_changes (d + 1) 26 [(0, .inr (.inr 49)), (2, .inl x2), (3, .inl x3)] [] w (some (.inl y), v)) : ∀ (n : Nat) (x2 x3 x4 x5 : Int) (w : aw_W) (y : Int) (v : aw_W), m_changes_57 N k26 n x2 x3 x4 x5 w = some (y, v) → aw_AW l K MX12_changes (d + 1) 57 [(0, .inr (.inr 49)), (2, .inl x2), (3, .inl x3), (4, .inl x4), (5, .inl x5)] [] w (some (.inl y), v) := by
  intro n
  induction n with
  | zero => intro x2 x3 x4 x5 w y v h; rw [m_changes_57] at h; cases h
  | succ n ih =>
    intro x2 x3 x4 x5 w y v h
    rw [m_changes_57] at h
    refine aw_iload (pc := 57) (q := 4) dX12_changes_57 rfl ?_
    refine aw_aload_n (pc := 59) (q := 0) dX12_changes_59 rfl ?_
    refine aw_getf (pc := 60) (v := .inr (.inr 56)) dX12_changes_60 fl_RX12_43 (by decide) rfl rfl rfl ?_
    refine aw_iconst (pc := 63) dX12_changes_63 ⟨by decide, by decide⟩ ?_
    refine aw_ialdv (pc := 64) (v := w 56 4) dX12_changes_64 rfl (by decide) (by decide) rfl ?_
    refine aw_icmp_gt (pc := 65) (tgt := 96) dX12_changes_65 (by decide) (fun hc => ?_) (fun hc => ?_)
    · rw [if_pos hc] at h
      exact aw_sel [0, 1, 2, 3] rfl (w_m_changes_96 N d hd  _ hk26 _ _ _ _ _ _ h)
    · rw [if_neg hc] at h
      refine aw_iload (pc := 68) (q := 3) dX12_changes_68 rfl ?_
      refine aw_if_ne (pc := 70) (tgt := 83) dX12_changes_70 (by decide) (fun hc => ?_) (fun hc => ?_)
      · rw [if_neg hc] at h
        exact aw_sel [0, 1, 2, 4] rfl (w_m_changes_83 N d hd  _ hk26 _ ih _ _ _ _ _ _ h)
      · rw [if_pos hc] at h
        refine aw_aload_n (pc := 73) (q := 0) dX12_changes_73 rfl ?_
        refine aw_iload_n (pc := 74) (q := 2) dX12_changes_74 rfl ?_
        refine aw_iload (pc := 75) (q := 4) dX12_changes_75 rfl ?_
        obtain ⟨r1, w1, h1, h⟩ := aw_b2s h
        refine aw_callV (pc := 77) (as := [.inl x3, .inl x5]) (st := []) (st' := [.inl r1]) dX12_changes_77 cv_RX12_439 (by decide) rfl rfl rfl rfl (Nat.le_of_ble_eq_true rfl) (w_m_hasBy N d (by omega) _ _ _ _ _ h1) rfl ?_
        refine aw_if_eq (pc := 80) (tgt := 87) dX12_changes_80 (by decide) (fun hc => ?_) (fun hc => ?_)
        · rw [if_pos hc] at h
          refine aw_iconst (pc := 87) dX12_changes_87 ⟨by decide, by decide⟩ ?_
          exact aw_sel [0, 1, 2, 4] rfl (w_m_changes_88 N d hd  _ hk26 _ ih _ _ _ _ _ _ _ h)
        · rw [if_neg hc] at h
          exact aw_sel [0, 1, 2, 4] rfl (w_m_changes_83 N d hd  _ hk26 _ ih _ _ _ _ _ _ h)
def m_changes_26 (N : Nat) : Nat → Int → Int → aw_W → Option (Int × aw_W)
  | 0, _, _, _ => none
  | n + 1, x2, x3, w =>
    if (w 49 22) ≤ x3 then
      m_changes_115 N x2 w
    else
      if 0 ≤ x3 ∧ x3 < 6 then
        aw_b2 (m_hasBy N x3 (w 64 x3.toNat) w) fun r1 w1 =>
          if r1 = 0 then
            m_changes_57 N (m_changes_26 N n) N x2 x3 0 0 w1
          else
            m_changes_109 N (m_changes_26 N n) x2 x3 w1
      else none
theorem w_m_changes_26 {l : Launch} {K : aw_K} (N d : Nat) (hd : 3 ≤ d) : ∀ (n : Nat) (x2 x3 : Int) (w : aw_W) (y : Int) (v : aw_W), m_changes_26 N n x2 x3 w = some (y, v) → aw_AW l K MX12_changes (d + 1) 26 [(0, .inr (.inr 49)), (2, .inl x2), (3, .inl x3)] [] w (some (.inl y), v) := by
  intro n
  induction n with
  | zero => intro x2 x3 w y v h; rw [m_changes_26] at h; cases h
  | succ n ih =>
    intro x2 x3 w y v h
    rw [m_changes_26] at h
    refine aw_iload_n (pc := 26) (q := 2) dX12_changes_26 rfl ?_
    refine aw_aload_n (pc := 27) (q := 0) dX12_changes_27 rfl ?_
    refine aw_getf (pc := 28) (v := .inl (w 49 22)) dX12_changes_28 fl_RX12_270 (by decide) rfl rfl rfl ?_
    refine aw_icmp_ge (pc := 31) (tgt := 115) dX12_changes_31 (by decide) (fun hc => ?_) (fun hc => ?_)
    · rw [if_pos hc] at h
      exact aw_sel [1] rfl (w_m_changes_115 N d hd  _ _ _ _ h)
    · rw [if_neg hc] at h
      refine aw_aload_n (pc := 34) (q := 0) dX12_changes_34 rfl ?_
      refine aw_iload_n (pc := 35) (q := 2) dX12_changes_35 rfl ?_
      refine aw_aload_n (pc := 36) (q := 0) dX12_changes_36 rfl ?_
      refine aw_getf (pc := 37) (v := .inr (.inr 64)) dX12_changes_37 fl_RX12_72 (by decide) rfl rfl rfl ?_
      refine aw_iload_n (pc := 40) (q := 2) dX12_changes_40 rfl ?_
      obtain ⟨hb, h⟩ := aw_cks h
      refine aw_ialdv (pc := 41) (v := w 64 x3.toNat) dX12_changes_41 rfl hb.1 hb.2 rfl ?_
      obtain ⟨r1, w1, h1, h⟩ := aw_b2s h
      refine aw_callV (pc := 42) (as := [.inl x3, .inl (w 64 x3.toNat)]) (st := []) (st' := [.inl r1]) dX12_changes_42 cv_RX12_439 (by decide) rfl rfl rfl rfl (Nat.le_of_ble_eq_true rfl) (w_m_hasBy N d (by omega) _ _ _ _ _ h1) rfl ?_
      refine aw_if_eq (pc := 45) (tgt := 51) dX12_changes_45 (by decide) (fun hc => ?_) (fun hc => ?_)
      · rw [if_pos hc] at h
        refine aw_iconst (pc := 51) dX12_changes_51 ⟨by decide, by decide⟩ ?_
        refine aw_istore (pc := 52) (ls' := [(4, .inl 0), (0, .inr (.inr 49)), (2, .inl x2), (3, .inl x3)]) dX12_changes_52 (by decide) rfl ?_
        refine aw_iconst (pc := 54) dX12_changes_54 ⟨by decide, by decide⟩ ?_
        refine aw_istore (pc := 55) (ls' := [(5, .inl 0), (4, .inl 0), (0, .inr (.inr 49)), (2, .inl x2), (3, .inl x3)]) dX12_changes_55 (by decide) rfl ?_
        exact aw_sel [2, 3, 4, 1, 0] rfl (w_m_changes_57 N d hd  _ ih N _ _ _ _ _ _ _ h)
      · rw [if_neg hc] at h
        refine aw_goto (pc := 48) (tgt := 109) dX12_changes_48 (by decide) ?_
        exact aw_sel [0, 1, 2] rfl (w_m_changes_109 N d hd  _ ih _ _ _ _ _ h)
def m_changes (N : Nat) (x1 : Int) (w : aw_W) : Option (Int × aw_W) :=
  if (w 49 22) = 0 then
    m_changes_20 N (aw_up w 49 0 0)
  else
    aw_b2 (m_lay N x1 (aw_up w 49 0 0)) fun r1 w1 =>
      if r1 = 0 then
        m_changes_20 N w1
      else
        m_changes_26 N N 0 0 w1
theorem w_m_changes_d {l : Launch} {K : aw_K} (N d : Nat) (hd : 3 ≤ d) : ∀ (x1 : Int) (w : aw_W) (y : Int) (v : aw_W), m_changes N x1 w = some (y, v) → aw_Met l K MX12_changes (d + 1) [.inr (.inr 49), .inl x1] w (some (.inl y), v) := by
  intro x1 w y v h
  unfold m_changes at h
  refine aw_enter rfl (Nat.le_of_ble_eq_true rfl) ?_
  show aw_AW l K MX12_changes (d + 1) 0 [(0, .inr (.inr 49)), (1, .inl x1)] [] w (some (.inl y), v)
  refine aw_aload_n (pc := 0) (q := 0) dX12_changes_0 rfl ?_
  refine aw_iconst (pc := 1) dX12_changes_1 ⟨by decide, by decide⟩ ?_
  refine aw_puti (pc := 2) dX12_changes_2 fp_RX12_99 (by decide) rfl rfl ?_
  refine aw_aload_n (pc := 5) (q := 0) dX12_changes_5 rfl ?_
  refine aw_getf (pc := 6) (v := .inl (w 49 22)) dX12_changes_6 fl_RX12_270 (by decide) rfl rfl rfl ?_
  refine aw_if_eq (pc := 9) (tgt := 20) dX12_changes_9 (by decide) (fun hc => ?_) (fun hc => ?_)
  · rw [if_pos hc] at h
    exact aw_sel [] rfl (w_m_changes_20 N d hd  _ _ _ h)
  · rw [if_neg hc] at h
    refine aw_aload_n (pc := 12) (q := 0) dX12_changes_12 rfl ?_
    refine aw_iload_n (pc := 13) (q := 1) dX12_changes_13 rfl ?_
    obtain ⟨r1, w1, h1, h⟩ := aw_b2s h
    refine aw_callV (pc := 14) (as := [.inl x1]) (st := []) (st' := [.inl r1]) dX12_changes_14 cv_RX12_342 (by decide) rfl rfl rfl rfl (Nat.le_of_ble_eq_true rfl) (w_m_lay N d (by omega) _ _ _ _ h1) rfl ?_
    refine aw_if_ne (pc := 17) (tgt := 22) dX12_changes_17 (by decide) (fun hc => ?_) (fun hc => ?_)
    · rw [if_neg hc] at h
      refine aw_iconst (pc := 22) dX12_changes_22 ⟨by decide, by decide⟩ ?_
      refine aw_istore_n (pc := 23) (ls' := [(2, .inl 0), (0, .inr (.inr 49)), (1, .inl x1)]) dX12_changes_23 (by decide) rfl ?_
      refine aw_iconst (pc := 24) dX12_changes_24 ⟨by decide, by decide⟩ ?_
      refine aw_istore_n (pc := 25) (ls' := [(3, .inl 0), (2, .inl 0), (0, .inr (.inr 49)), (1, .inl x1)]) dX12_changes_25 (by decide) rfl ?_
      exact aw_sel [2, 1, 0] rfl (w_m_changes_26 N d hd  N _ _ _ _ _ h)
    · rw [if_pos hc] at h
      exact aw_sel [] rfl (w_m_changes_20 N d hd  _ _ _ h)
theorem w_m_changes {l : Launch} {K : aw_K} (N d : Nat) (hd : 4 ≤ d) : ∀ (x1 : Int) (w : aw_W) (y : Int) (v : aw_W), m_changes N x1 w = some (y, v) → aw_Met l K MX12_changes (d) [.inr (.inr 49), .inl x1] w (some (.inl y), v) := by
  obtain ⟨e, rfl⟩ : ∃ e, d = e + 1 := ⟨d - 1, by omega⟩
  exact w_m_changes_d N e (by omega)
theorem dX12_choice_0 : decode cX12_choice 0 = .ok (.aload_n 0, 1) := by decide +kernel
theorem dX12_choice_1 : decode cX12_choice 1 = .ok (.iconst 0, 1) := by decide +kernel
theorem dX12_choice_2 : decode cX12_choice 2 = .ok (.putfield 99, 3) := by decide +kernel
theorem dX12_choice_5 : decode cX12_choice 5 = .ok (.aload_n 0, 1) := by decide +kernel
theorem dX12_choice_6 : decode cX12_choice 6 = .ok (.iload_n 1, 1) := by decide +kernel
theorem dX12_choice_7 : decode cX12_choice 7 = .ok (.iload_n 2, 1) := by decide +kernel
theorem dX12_choice_8 : decode cX12_choice 8 = .ok (.invokevirtual 310, 3) := by decide +kernel
theorem dX12_choice_11 : decode cX12_choice 11 = .ok (.ifCond .eq 11, 3) := by decide +kernel
theorem dX12_choice_14 : decode cX12_choice 14 = .ok (.aload_n 0, 1) := by decide +kernel
theorem dX12_choice_15 : decode cX12_choice 15 = .ok (.iload_n 3, 1) := by decide +kernel
theorem dX12_choice_16 : decode cX12_choice 16 = .ok (.invokevirtual 282, 3) := by decide +kernel
theorem dX12_choice_19 : decode cX12_choice 19 = .ok (.ifCond .ne 7, 3) := by decide +kernel
theorem dX12_choice_22 : decode cX12_choice 22 = .ok (.ldc_w 315, 3) := by decide +kernel
theorem dX12_choice_25 : decode cX12_choice 25 = .ok (.ireturn, 1) := by decide +kernel
theorem dX12_choice_26 : decode cX12_choice 26 = .ok (.aload_n 0, 1) := by decide +kernel
theorem dX12_choice_27 : decode cX12_choice 27 = .ok (.getfield 49, 3) := by decide +kernel
theorem dX12_choice_30 : decode cX12_choice 30 = .ok (.iload_n 3, 1) := by decide +kernel
theorem dX12_choice_31 : decode cX12_choice 31 = .ok (.iaload, 1) := by decide +kernel
theorem dX12_choice_32 : decode cX12_choice 32 = .ok (.istore 4, 2) := by decide +kernel
theorem dX12_choice_34 : decode cX12_choice 34 = .ok (.iconst (-1), 1) := by decide +kernel
theorem dX12_choice_35 : decode cX12_choice 35 = .ok (.istore 5, 2) := by decide +kernel
theorem dX12_choice_37 : decode cX12_choice 37 = .ok (.iconst 0, 1) := by decide +kernel
theorem dX12_choice_38 : decode cX12_choice 38 = .ok (.istore 6, 2) := by decide +kernel
theorem dX12_choice_40 : decode cX12_choice 40 = .ok (.iload 6, 2) := by decide +kernel
theorem dX12_choice_42 : decode cX12_choice 42 = .ok (.aload_n 0, 1) := by decide +kernel
theorem dX12_choice_43 : decode cX12_choice 43 = .ok (.getfield 265, 3) := by decide +kernel
theorem dX12_choice_46 : decode cX12_choice 46 = .ok (.if_icmp .ge 41, 3) := by decide +kernel
theorem dX12_choice_49 : decode cX12_choice 49 = .ok (.iload 5, 2) := by decide +kernel
theorem dX12_choice_51 : decode cX12_choice 51 = .ok (.iconst (-1), 1) := by decide +kernel
theorem dX12_choice_52 : decode cX12_choice 52 = .ok (.if_icmp .ne 35, 3) := by decide +kernel
theorem dX12_choice_55 : decode cX12_choice 55 = .ok (.aload_n 0, 1) := by decide +kernel
theorem dX12_choice_56 : decode cX12_choice 56 = .ok (.getfield 49, 3) := by decide +kernel
theorem dX12_choice_59 : decode cX12_choice 59 = .ok (.iload_n 3, 1) := by decide +kernel
theorem dX12_choice_60 : decode cX12_choice 60 = .ok (.iload 6, 2) := by decide +kernel
theorem dX12_choice_62 : decode cX12_choice 62 = .ok (.iastore, 1) := by decide +kernel
theorem dX12_choice_63 : decode cX12_choice 63 = .ok (.aload_n 0, 1) := by decide +kernel
theorem dX12_choice_64 : decode cX12_choice 64 = .ok (.iload_n 1, 1) := by decide +kernel
theorem dX12_choice_65 : decode cX12_choice 65 = .ok (.iload_n 2, 1) := by decide +kernel
theorem dX12_choice_66 : decode cX12_choice 66 = .ok (.invokevirtual 316, 3) := by decide +kernel
theorem dX12_choice_69 : decode cX12_choice 69 = .ok (.aload_n 0, 1) := by decide +kernel
theorem dX12_choice_70 : decode cX12_choice 70 = .ok (.invokevirtual 320, 3) := by decide +kernel
theorem dX12_choice_73 : decode cX12_choice 73 = .ok (.iload_n 3, 1) := by decide +kernel
theorem dX12_choice_74 : decode cX12_choice 74 = .ok (.if_icmp .ne 7, 3) := by decide +kernel
theorem dX12_choice_77 : decode cX12_choice 77 = .ok (.iload 6, 2) := by decide +kernel
theorem dX12_choice_79 : decode cX12_choice 79 = .ok (.istore 5, 2) := by decide +kernel
theorem dX12_choice_81 : decode cX12_choice 81 = .ok (.iinc 6 1, 3) := by decide +kernel
theorem dX12_choice_84 : decode cX12_choice 84 = .ok (.goto (-44), 3) := by decide +kernel
theorem dX12_choice_87 : decode cX12_choice 87 = .ok (.aload_n 0, 1) := by decide +kernel
theorem dX12_choice_88 : decode cX12_choice 88 = .ok (.getfield 49, 3) := by decide +kernel
theorem dX12_choice_91 : decode cX12_choice 91 = .ok (.iload_n 3, 1) := by decide +kernel
theorem dX12_choice_92 : decode cX12_choice 92 = .ok (.iload 4, 2) := by decide +kernel
theorem dX12_choice_94 : decode cX12_choice 94 = .ok (.iastore, 1) := by decide +kernel
theorem dX12_choice_95 : decode cX12_choice 95 = .ok (.iload 5, 2) := by decide +kernel
theorem dX12_choice_97 : decode cX12_choice 97 = .ok (.ireturn, 1) := by decide +kernel
def m_choice_22 (N : Nat) (w : aw_W) : Option (Int × aw_W) :=
  some ((-1000000), w)
theorem w_m_choice_22 {l : Launch} {K : aw_K} (N d : Nat) (hd : 129 ≤ d) : ∀ (w : aw_W) (y : Int) (v : aw_W), m_choice_22 N w = some (y, v) → aw_AW l K MX12_choice (d + 1) 22 [] [] w (some (.inl y), v) := by
  intro w y v h
  unfold m_choice_22 at h
  refine aw_ldcw (pc := 22) (x := (-1000000)) dX12_choice_22 cn_RX12_315 ⟨by decide, by decide⟩ ?_
  cases h
  exact aw_iret (pc := 25) rfl dX12_choice_25
def m_choice_87 (N : Nat) (x3 x4 x5 : Int) (w : aw_W) : Option (Int × aw_W) :=
  if 0 ≤ x3 ∧ x3 < 6 then
    some (x5, (aw_up w 58 x3.toNat x4))
  else none
theorem w_m_choice_87 {l : Launch} {K : aw_K} (N d : Nat) (hd : 129 ≤ d) : ∀ (x3 x4 x5 : Int) (w : aw_W) (y : Int) (v : aw_W), m_choice_87 N x3 x4 x5 w = some (y, v) → aw_AW l K MX12_choice (d + 1) 87 [(0, .inr (.inr 49)), (3, .inl x3), (4, .inl x4), (5, .inl x5)] [] w (some (.inl y), v) := by
  intro x3 x4 x5 w y v h
  unfold m_choice_87 at h
  refine aw_aload_n (pc := 87) (q := 0) dX12_choice_87 rfl ?_
  refine aw_getf (pc := 88) (v := .inr (.inr 58)) dX12_choice_88 fl_RX12_49 (by decide) rfl rfl rfl ?_
  refine aw_iload_n (pc := 91) (q := 1) dX12_choice_91 rfl ?_
  refine aw_iload (pc := 92) (q := 2) dX12_choice_92 rfl ?_
  obtain ⟨hb, h⟩ := aw_cks h
  refine aw_iast (pc := 94) dX12_choice_94 rfl hb.1 hb.2 ?_
  refine aw_iload (pc := 95) (q := 3) dX12_choice_95 rfl ?_
  cases h
  exact aw_iret (pc := 97) rfl dX12_choice_97
def m_choice_81 (N : Nat) (k40 : Int → Int → Int → Int → Int → Int → aw_W → Option (Int × aw_W)) (x1 x2 x3 x4 x5 x6 : Int) (w : aw_W) : Option (Int × aw_W) :=
  k40 x1 x2 x3 x4 x5 (aw_w (x6 + 1)) w
theorem w_m_choice_81 {l : Launch} {K : aw_K} (N d : Nat) (hd : 129 ≤ d) (k40 : Int → Int → Int → Int → Int → Int → aw_W → Option (Int × aw_W)) (hk40 : ∀ (x1 x2 x3 x4 x5 x6 : Int) (w : aw_W) (y : Int) (v : aw_W), k40 x1 x2 x3 x4 x5 x6 w = some (y, v) → aw_AW l K MX12_choice (d + 1) 40 [(0, .inr (.inr 49)), (1, .inl x1), (2, .inl x2), (3, .inl x3), (4, .inl x4), (5, .inl x5), (6, .inl x6)] [] w (some (.inl y), v)) : ∀ (x1 x2 x3 x4 x5 x6 : Int) (w : aw_W) (y : Int) (v : aw_W), m_choice_81 N k40 x1 x2 x3 x4 x5 x6 w = some (y, v) → aw_AW l K MX12_choice (d + 1) 81 [(0, .inr (.inr 49)), (1, .inl x1), (2, .inl x2), (3, .inl x3), (4, .inl x4), (5, .inl x5), (6, .inl x6)] [] w (some (.inl y), v) := by
  intro x1 x2 x3 x4 x5 x6 w y v h
  unfold m_choice_81 at h
  refine aw_iinc (pc := 81) (q := 6) (ls' := [(6, .inl (aw_w (x6 + 1))), (0, .inr (.inr 49)), (1, .inl x1), (2, .inl x2), (3, .inl x3), (4, .inl x4), (5, .inl x5)]) dX12_choice_81 rfl (by decide) rfl ?_
  refine aw_goto (pc := 84) (tgt := 40) dX12_choice_84 (by decide) ?_
  exact aw_sel [1, 2, 3, 4, 5, 6, 0] rfl (hk40 _ _ _ _ _ _ _ _ _ h)
def m_choice_40 (N : Nat) : Nat → Int → Int → Int → Int → Int → Int → aw_W → Option (Int × aw_W)
  | 0, _, _, _, _, _, _, _ => none
  | n + 1, x1, x2, x3, x4, x5, x6, w =>
    if (w 49 7) ≤ x6 then
      m_choice_87 N x3 x4 x5 w
    else
      if x5 = (-1) then
        if 0 ≤ x3 ∧ x3 < 6 then
          aw_b1 (m_run N x1 x2 (aw_up w 58 x3.toNat x6)) fun w1 =>
            aw_b2 (m_winner N w1) fun r2 w2 =>
              if r2 = x3 then
                m_choice_81 N (m_choice_40 N n) x1 x2 x3 x4 x6 x6 w2
              else
                m_choice_81 N (m_choice_40 N n) x1 x2 x3 x4 x5 x6 w2
        else none
      else
        m_choice_87 N x3 x4 x5 w
theorem w_m_choice_40 {l : Launch} {K : aw_K} (N d : Nat) (hd : 129 ≤ d) : ∀ (n : Nat) (x1 x2 x3 x4 x5 x6 : Int) (w : aw_W) (y : Int) (v : aw_W), m_choice_40 N n x1 x2 x3 x4 x5 x6 w = some (y, v) → aw_AW l K MX12_choice (d + 1) 40 [(0, .inr (.inr 49)), (1, .inl x1), (2, .inl x2), (3, .inl x3), (4, .inl x4), (5, .inl x5), (6, .inl x6)] [] w (some (.inl y), v) := by
  intro n
  induction n with
  | zero => intro x1 x2 x3 x4 x5 x6 w y v h; rw [m_choice_40] at h; cases h
  | succ n ih =>
    intro x1 x2 x3 x4 x5 x6 w y v h
    rw [m_choice_40] at h
    refine aw_iload (pc := 40) (q := 6) dX12_choice_40 rfl ?_
    refine aw_aload_n (pc := 42) (q := 0) dX12_choice_42 rfl ?_
    refine aw_getf (pc := 43) (v := .inl (w 49 7)) dX12_choice_43 fl_RX12_265 (by decide) rfl rfl rfl ?_
    refine aw_icmp_ge (pc := 46) (tgt := 87) dX12_choice_46 (by decide) (fun hc => ?_) (fun hc => ?_)
    · rw [if_pos hc] at h
      exact aw_sel [0, 3, 4, 5] rfl (w_m_choice_87 N d hd  _ _ _ _ _ _ h)
    · rw [if_neg hc] at h
      refine aw_iload (pc := 49) (q := 5) dX12_choice_49 rfl ?_
      refine aw_iconst (pc := 51) dX12_choice_51 ⟨by decide, by decide⟩ ?_
      refine aw_icmp_ne (pc := 52) (tgt := 87) dX12_choice_52 (by decide) (fun hc => ?_) (fun hc => ?_)
      · rw [if_neg hc] at h
        exact aw_sel [0, 3, 4, 5] rfl (w_m_choice_87 N d hd  _ _ _ _ _ _ h)
      · rw [if_pos hc] at h
        refine aw_aload_n (pc := 55) (q := 0) dX12_choice_55 rfl ?_
        refine aw_getf (pc := 56) (v := .inr (.inr 58)) dX12_choice_56 fl_RX12_49 (by decide) rfl rfl rfl ?_
        refine aw_iload_n (pc := 59) (q := 3) dX12_choice_59 rfl ?_
        refine aw_iload (pc := 60) (q := 6) dX12_choice_60 rfl ?_
        obtain ⟨hb, h⟩ := aw_cks h
        refine aw_iast (pc := 62) dX12_choice_62 rfl hb.1 hb.2 ?_
        refine aw_aload_n (pc := 63) (q := 0) dX12_choice_63 rfl ?_
        refine aw_iload_n (pc := 64) (q := 1) dX12_choice_64 rfl ?_
        refine aw_iload_n (pc := 65) (q := 2) dX12_choice_65 rfl ?_
        obtain ⟨w1, h1, h⟩ := aw_b1s h
        refine aw_callV (pc := 66) (as := [.inl x1, .inl x2]) (st := []) (st' := []) dX12_choice_66 cv_RX12_316 (by decide) rfl rfl rfl rfl (Nat.le_of_ble_eq_true rfl) (w_m_run N d (by omega) _ _ _ _ h1) rfl ?_
        refine aw_aload_n (pc := 69) (q := 0) dX12_choice_69 rfl ?_
        obtain ⟨r2, w2, h2, h⟩ := aw_b2s h
        refine aw_callV (pc := 70) (as := []) (st := []) (st' := [.inl r2]) dX12_choice_70 cv_RX12_320 (by decide) rfl rfl rfl rfl (Nat.le_of_ble_eq_true rfl) (w_m_winner N d (by omega) _ _ _ h2) rfl ?_
        refine aw_iload_n (pc := 73) (q := 3) dX12_choice_73 rfl ?_
        refine aw_icmp_ne (pc := 74) (tgt := 81) dX12_choice_74 (by decide) (fun hc => ?_) (fun hc => ?_)
        · rw [if_neg hc] at h
          exact aw_sel [0, 1, 2, 3, 4, 5, 6] rfl (w_m_choice_81 N d hd  _ ih _ _ _ _ _ _ _ _ _ h)
        · rw [if_pos hc] at h
          refine aw_iload (pc := 77) (q := 6) dX12_choice_77 rfl ?_
          refine aw_istore (pc := 79) (ls' := [(5, .inl x6), (0, .inr (.inr 49)), (1, .inl x1), (2, .inl x2), (3, .inl x3), (4, .inl x4), (6, .inl x6)]) dX12_choice_79 (by decide) rfl ?_
          exact aw_sel [1, 2, 3, 4, 5, 0, 6] rfl (w_m_choice_81 N d hd  _ ih _ _ _ _ _ _ _ _ _ h)
def m_choice (N : Nat) (x1 x2 x3 : Int) (w : aw_W) : Option (Int × aw_W) :=
  aw_b2 (m_isRace N x1 x2 (aw_up w 49 0 0)) fun r1 w1 =>
    if r1 = 0 then
      m_choice_22 N w1
    else
      aw_b2 (m_isStriver N x3 w1) fun r2 w2 =>
        if r2 = 0 then
          m_choice_22 N w2
        else
          if 0 ≤ x3 ∧ x3 < 6 then
            m_choice_40 N N x1 x2 x3 (w2 58 x3.toNat) (-1) 0 w2
          else none
theorem w_m_choice_d {l : Launch} {K : aw_K} (N d : Nat) (hd : 129 ≤ d) : ∀ (x1 x2 x3 : Int) (w : aw_W) (y : Int) (v : aw_W), m_choice N x1 x2 x3 w = some (y, v) → aw_Met l K MX12_choice (d + 1) [.inr (.inr 49), .inl x1, .inl x2, .inl x3] w (some (.inl y), v) := by
  intro x1 x2 x3 w y v h
  unfold m_choice at h
  refine aw_enter rfl (Nat.le_of_ble_eq_true rfl) ?_
  show aw_AW l K MX12_choice (d + 1) 0 [(0, .inr (.inr 49)), (1, .inl x1), (2, .inl x2), (3, .inl x3)] [] w (some (.inl y), v)
  refine aw_aload_n (pc := 0) (q := 0) dX12_choice_0 rfl ?_
  refine aw_iconst (pc := 1) dX12_choice_1 ⟨by decide, by decide⟩ ?_
  refine aw_puti (pc := 2) dX12_choice_2 fp_RX12_99 (by decide) rfl rfl ?_
  refine aw_aload_n (pc := 5) (q := 0) dX12_choice_5 rfl ?_
  refine aw_iload_n (pc := 6) (q := 1) dX12_choice_6 rfl ?_
  refine aw_iload_n (pc := 7) (q := 2) dX12_choice_7 rfl ?_
  obtain ⟨r1, w1, h1, h⟩ := aw_b2s h
  refine aw_callV (pc := 8) (as := [.inl x1, .inl x2]) (st := []) (st' := [.inl r1]) dX12_choice_8 cv_RX12_310 (by decide) rfl rfl rfl rfl (Nat.le_of_ble_eq_true rfl) (w_m_isRace N d (by omega) _ _ _ _ _ h1) rfl ?_
  refine aw_if_eq (pc := 11) (tgt := 22) dX12_choice_11 (by decide) (fun hc => ?_) (fun hc => ?_)
  · rw [if_pos hc] at h
    exact aw_sel [] rfl (w_m_choice_22 N d hd  _ _ _ h)
  · rw [if_neg hc] at h
    refine aw_aload_n (pc := 14) (q := 0) dX12_choice_14 rfl ?_
    refine aw_iload_n (pc := 15) (q := 3) dX12_choice_15 rfl ?_
    obtain ⟨r2, w2, h2, h⟩ := aw_b2s h
    refine aw_callV (pc := 16) (as := [.inl x3]) (st := []) (st' := [.inl r2]) dX12_choice_16 cv_RX12_282 (by decide) rfl rfl rfl rfl (Nat.le_of_ble_eq_true rfl) (w_m_isStriver N d (by omega) _ _ _ _ h2) rfl ?_
    refine aw_if_ne (pc := 19) (tgt := 26) dX12_choice_19 (by decide) (fun hc => ?_) (fun hc => ?_)
    · rw [if_neg hc] at h
      refine aw_aload_n (pc := 26) (q := 0) dX12_choice_26 rfl ?_
      refine aw_getf (pc := 27) (v := .inr (.inr 58)) dX12_choice_27 fl_RX12_49 (by decide) rfl rfl rfl ?_
      refine aw_iload_n (pc := 30) (q := 3) dX12_choice_30 rfl ?_
      obtain ⟨hb, h⟩ := aw_cks h
      refine aw_ialdv (pc := 31) (v := w2 58 x3.toNat) dX12_choice_31 rfl hb.1 hb.2 rfl ?_
      refine aw_istore (pc := 32) (ls' := [(4, .inl (w2 58 x3.toNat)), (0, .inr (.inr 49)), (1, .inl x1), (2, .inl x2), (3, .inl x3)]) dX12_choice_32 (by decide) rfl ?_
      refine aw_iconst (pc := 34) dX12_choice_34 ⟨by decide, by decide⟩ ?_
      refine aw_istore (pc := 35) (ls' := [(5, .inl (-1)), (4, .inl (w2 58 x3.toNat)), (0, .inr (.inr 49)), (1, .inl x1), (2, .inl x2), (3, .inl x3)]) dX12_choice_35 (by decide) rfl ?_
      refine aw_iconst (pc := 37) dX12_choice_37 ⟨by decide, by decide⟩ ?_
      refine aw_istore (pc := 38) (ls' := [(6, .inl 0), (5, .inl (-1)), (4, .inl (w2 58 x3.toNat)), (0, .inr (.inr 49)), (1, .inl x1), (2, .inl x2), (3, .inl x3)]) dX12_choice_38 (by decide) rfl ?_
      exact aw_sel [3, 4, 5, 6, 2, 1, 0] rfl (w_m_choice_40 N d hd  N _ _ _ _ _ _ _ _ _ h)
    · rw [if_pos hc] at h
      exact aw_sel [] rfl (w_m_choice_22 N d hd  _ _ _ h)
theorem w_m_choice {l : Launch} {K : aw_K} (N d : Nat) (hd : 130 ≤ d) : ∀ (x1 x2 x3 : Int) (w : aw_W) (y : Int) (v : aw_W), m_choice N x1 x2 x3 w = some (y, v) → aw_Met l K MX12_choice (d) [.inr (.inr 49), .inl x1, .inl x2, .inl x3] w (some (.inl y), v) := by
  obtain ⟨e, rfl⟩ : ∃ e, d = e + 1 := ⟨d - 1, by omega⟩
  exact w_m_choice_d N e (by omega)
theorem dX12_count_0 : decode cX12_count 0 = .ok (.aload_n 0, 1) := by decide +kernel
theorem dX12_count_1 : decode cX12_count 1 = .ok (.iconst 0, 1) := by decide +kernel
theorem dX12_count_2 : decode cX12_count 2 = .ok (.putfield 99, 3) := by decide +kernel
theorem dX12_count_5 : decode cX12_count 5 = .ok (.iload_n 1, 1) := by decide +kernel
theorem dX12_count_6 : decode cX12_count 6 = .ok (.tableswitch 50 0 3 #[30, 35, 40, 45], 30) := by decide +kernel
theorem dX12_count_36 : decode cX12_count 36 = .ok (.aload_n 0, 1) := by decide +kernel
theorem dX12_count_37 : decode cX12_count 37 = .ok (.getfield 270, 3) := by decide +kernel
theorem dX12_count_40 : decode cX12_count 40 = .ok (.ireturn, 1) := by decide +kernel
theorem dX12_count_41 : decode cX12_count 41 = .ok (.aload_n 0, 1) := by decide +kernel
theorem dX12_count_42 : decode cX12_count 42 = .ok (.getfield 265, 3) := by decide +kernel
theorem dX12_count_45 : decode cX12_count 45 = .ok (.ireturn, 1) := by decide +kernel
theorem dX12_count_46 : decode cX12_count 46 = .ok (.aload_n 0, 1) := by decide +kernel
theorem dX12_count_47 : decode cX12_count 47 = .ok (.getfield 112, 3) := by decide +kernel
theorem dX12_count_50 : decode cX12_count 50 = .ok (.ireturn, 1) := by decide +kernel
theorem dX12_count_51 : decode cX12_count 51 = .ok (.aload_n 0, 1) := by decide +kernel
theorem dX12_count_52 : decode cX12_count 52 = .ok (.getfield 273, 3) := by decide +kernel
theorem dX12_count_55 : decode cX12_count 55 = .ok (.ireturn, 1) := by decide +kernel
theorem dX12_count_56 : decode cX12_count 56 = .ok (.ldc_w 315, 3) := by decide +kernel
theorem dX12_count_59 : decode cX12_count 59 = .ok (.ireturn, 1) := by decide +kernel
def m_count (N : Nat) (x1 : Int) (w : aw_W) : Option (Int × aw_W) :=
  if x1 = 0 then
    some (w 49 22, (aw_up w 49 0 0))
  else
    if x1 = 1 then
      some (w 49 7, (aw_up w 49 0 0))
    else
      if x1 = 2 then
        some (w 49 6, (aw_up w 49 0 0))
      else
        if x1 = 3 then
          some (w 49 43, (aw_up w 49 0 0))
        else
          some ((-1000000), (aw_up w 49 0 0))
theorem w_m_count {l : Launch} {K : aw_K} (N d : Nat) (hd : 0 ≤ d) : ∀ (x1 : Int) (w : aw_W) (y : Int) (v : aw_W), m_count N x1 w = some (y, v) → aw_Met l K MX12_count (d) [.inr (.inr 49), .inl x1] w (some (.inl y), v) := by
  intro x1 w y v h
  unfold m_count at h
  refine aw_enter rfl (Nat.le_of_ble_eq_true rfl) ?_
  show aw_AW l K MX12_count (d) 0 [(0, .inr (.inr 49)), (1, .inl x1)] [] w (some (.inl y), v)
  refine aw_aload_n (pc := 0) (q := 0) dX12_count_0 rfl ?_
  refine aw_iconst (pc := 1) dX12_count_1 ⟨by decide, by decide⟩ ?_
  refine aw_puti (pc := 2) dX12_count_2 fp_RX12_99 (by decide) rfl rfl ?_
  refine aw_iload_n (pc := 5) (q := 1) dX12_count_5 rfl ?_
  by_cases hc0 : x1 = 0
  · rw [if_pos hc0] at h
    refine aw_tabIn (pc := 6) (tgt := 36) (off := 30) dX12_count_6 (by omega) (by omega) (by rw [hc0]; rfl) (by decide) ?_
    refine aw_aload_n (pc := 36) (q := 0) dX12_count_36 rfl ?_
    refine aw_getf (pc := 37) (v := .inl (w 49 22)) dX12_count_37 fl_RX12_270 (by decide) rfl rfl rfl ?_
    cases h
    exact aw_iret (pc := 40) rfl dX12_count_40
  · rw [if_neg hc0] at h
    by_cases hc1 : x1 = 1
    · rw [if_pos hc1] at h
      refine aw_tabIn (pc := 6) (tgt := 41) (off := 35) dX12_count_6 (by omega) (by omega) (by rw [hc1]; rfl) (by decide) ?_
      refine aw_aload_n (pc := 41) (q := 0) dX12_count_41 rfl ?_
      refine aw_getf (pc := 42) (v := .inl (w 49 7)) dX12_count_42 fl_RX12_265 (by decide) rfl rfl rfl ?_
      cases h
      exact aw_iret (pc := 45) rfl dX12_count_45
    · rw [if_neg hc1] at h
      by_cases hc2 : x1 = 2
      · rw [if_pos hc2] at h
        refine aw_tabIn (pc := 6) (tgt := 46) (off := 40) dX12_count_6 (by omega) (by omega) (by rw [hc2]; rfl) (by decide) ?_
        refine aw_aload_n (pc := 46) (q := 0) dX12_count_46 rfl ?_
        refine aw_getf (pc := 47) (v := .inl (w 49 6)) dX12_count_47 fl_RX12_112 (by decide) rfl rfl rfl ?_
        cases h
        exact aw_iret (pc := 50) rfl dX12_count_50
      · rw [if_neg hc2] at h
        by_cases hc3 : x1 = 3
        · rw [if_pos hc3] at h
          refine aw_tabIn (pc := 6) (tgt := 51) (off := 45) dX12_count_6 (by omega) (by omega) (by rw [hc3]; rfl) (by decide) ?_
          refine aw_aload_n (pc := 51) (q := 0) dX12_count_51 rfl ?_
          refine aw_getf (pc := 52) (v := .inl (w 49 43)) dX12_count_52 fl_RX12_273 (by decide) rfl rfl rfl ?_
          cases h
          exact aw_iret (pc := 55) rfl dX12_count_55
        · rw [if_neg hc3] at h
          refine aw_tabOut (pc := 6) (tgt := 56) dX12_count_6 (by omega) (by decide) ?_
          refine aw_ldcw (pc := 56) (x := (-1000000)) dX12_count_56 cn_RX12_315 ⟨by decide, by decide⟩ ?_
          cases h
          exact aw_iret (pc := 59) rfl dX12_count_59
theorem dX12_layBest_0 : decode cX12_layBest 0 = .ok (.aload_n 0, 1) := by decide +kernel
theorem dX12_layBest_1 : decode cX12_layBest 1 = .ok (.getfield 72, 3) := by decide +kernel
theorem dX12_layBest_4 : decode cX12_layBest 4 = .ok (.iload_n 1, 1) := by decide +kernel
theorem dX12_layBest_5 : decode cX12_layBest 5 = .ok (.iaload, 1) := by decide +kernel
theorem dX12_layBest_6 : decode cX12_layBest 6 = .ok (.istore_n 2, 1) := by decide +kernel
theorem dX12_layBest_7 : decode cX12_layBest 7 = .ok (.aload_n 0, 1) := by decide +kernel
theorem dX12_layBest_8 : decode cX12_layBest 8 = .ok (.iload_n 1, 1) := by decide +kernel
theorem dX12_layBest_9 : decode cX12_layBest 9 = .ok (.invokevirtual 348, 3) := by decide +kernel
theorem dX12_layBest_12 : decode cX12_layBest 12 = .ok (.istore_n 3, 1) := by decide +kernel
theorem dX12_layBest_13 : decode cX12_layBest 13 = .ok (.aload_n 0, 1) := by decide +kernel
theorem dX12_layBest_14 : decode cX12_layBest 14 = .ok (.iconst (-1), 1) := by decide +kernel
theorem dX12_layBest_15 : decode cX12_layBest 15 = .ok (.putfield 351, 3) := by decide +kernel
theorem dX12_layBest_18 : decode cX12_layBest 18 = .ok (.aload_n 0, 1) := by decide +kernel
theorem dX12_layBest_19 : decode cX12_layBest 19 = .ok (.iconst 0, 1) := by decide +kernel
theorem dX12_layBest_20 : decode cX12_layBest 20 = .ok (.putfield 354, 3) := by decide +kernel
theorem dX12_layBest_23 : decode cX12_layBest 23 = .ok (.iconst 0, 1) := by decide +kernel
theorem dX12_layBest_24 : decode cX12_layBest 24 = .ok (.istore 4, 2) := by decide +kernel
theorem dX12_layBest_26 : decode cX12_layBest 26 = .ok (.iload 4, 2) := by decide +kernel
theorem dX12_layBest_28 : decode cX12_layBest 28 = .ok (.aload_n 0, 1) := by decide +kernel
theorem dX12_layBest_29 : decode cX12_layBest 29 = .ok (.getfield 43, 3) := by decide +kernel
theorem dX12_layBest_32 : decode cX12_layBest 32 = .ok (.iconst 4, 1) := by decide +kernel
theorem dX12_layBest_33 : decode cX12_layBest 33 = .ok (.iaload, 1) := by decide +kernel
theorem dX12_layBest_34 : decode cX12_layBest 34 = .ok (.if_icmp .gt 50, 3) := by decide +kernel
theorem dX12_layBest_37 : decode cX12_layBest 37 = .ok (.aload_n 0, 1) := by decide +kernel
theorem dX12_layBest_38 : decode cX12_layBest 38 = .ok (.getfield 72, 3) := by decide +kernel
theorem dX12_layBest_41 : decode cX12_layBest 41 = .ok (.iload_n 1, 1) := by decide +kernel
theorem dX12_layBest_42 : decode cX12_layBest 42 = .ok (.iload 4, 2) := by decide +kernel
theorem dX12_layBest_44 : decode cX12_layBest 44 = .ok (.iastore, 1) := by decide +kernel
theorem dX12_layBest_45 : decode cX12_layBest 45 = .ok (.aload_n 0, 1) := by decide +kernel
theorem dX12_layBest_46 : decode cX12_layBest 46 = .ok (.iload_n 1, 1) := by decide +kernel
theorem dX12_layBest_47 : decode cX12_layBest 47 = .ok (.invokevirtual 348, 3) := by decide +kernel
theorem dX12_layBest_50 : decode cX12_layBest 50 = .ok (.iload_n 3, 1) := by decide +kernel
theorem dX12_layBest_51 : decode cX12_layBest 51 = .ok (.isub, 1) := by decide +kernel
theorem dX12_layBest_52 : decode cX12_layBest 52 = .ok (.istore 5, 2) := by decide +kernel
theorem dX12_layBest_54 : decode cX12_layBest 54 = .ok (.iload 5, 2) := by decide +kernel
theorem dX12_layBest_56 : decode cX12_layBest 56 = .ok (.aload_n 0, 1) := by decide +kernel
theorem dX12_layBest_57 : decode cX12_layBest 57 = .ok (.getfield 354, 3) := by decide +kernel
theorem dX12_layBest_60 : decode cX12_layBest 60 = .ok (.if_icmp .gt 6, 3) := by decide +kernel
theorem dX12_layBest_63 : decode cX12_layBest 63 = .ok (.goto 15, 3) := by decide +kernel
theorem dX12_layBest_66 : decode cX12_layBest 66 = .ok (.aload_n 0, 1) := by decide +kernel
theorem dX12_layBest_67 : decode cX12_layBest 67 = .ok (.iload 4, 2) := by decide +kernel
theorem dX12_layBest_69 : decode cX12_layBest 69 = .ok (.putfield 351, 3) := by decide +kernel
theorem dX12_layBest_72 : decode cX12_layBest 72 = .ok (.aload_n 0, 1) := by decide +kernel
theorem dX12_layBest_73 : decode cX12_layBest 73 = .ok (.iload 5, 2) := by decide +kernel
theorem dX12_layBest_75 : decode cX12_layBest 75 = .ok (.putfield 354, 3) := by decide +kernel
theorem dX12_layBest_78 : decode cX12_layBest 78 = .ok (.iinc 4 1, 3) := by decide +kernel
theorem dX12_layBest_81 : decode cX12_layBest 81 = .ok (.goto (-55), 3) := by decide +kernel
theorem dX12_layBest_84 : decode cX12_layBest 84 = .ok (.aload_n 0, 1) := by decide +kernel
theorem dX12_layBest_85 : decode cX12_layBest 85 = .ok (.getfield 72, 3) := by decide +kernel
theorem dX12_layBest_88 : decode cX12_layBest 88 = .ok (.iload_n 1, 1) := by decide +kernel
theorem dX12_layBest_89 : decode cX12_layBest 89 = .ok (.iload_n 2, 1) := by decide +kernel
theorem dX12_layBest_90 : decode cX12_layBest 90 = .ok (.iastore, 1) := by decide +kernel
theorem dX12_layBest_91 : decode cX12_layBest 91 = .ok (.return_, 1) := by decide +kernel
def m_layBest_84 (N : Nat) (x1 x2 : Int) (w : aw_W) : Option (aw_W) :=
  if 0 ≤ x1 ∧ x1 < 6 then
    some (aw_up w 64 x1.toNat x2)
  else none
theorem w_m_layBest_84 {l : Launch} {K : aw_K} (N d : Nat) (hd : 3 ≤ d) : ∀ (x1 x2 : Int) (w v : aw_W), m_layBest_84 N x1 x2 w = some v → aw_AW l K MX12_layBest (d + 1) 84 [(0, .inr (.inr 49)), (1, .inl x1), (2, .inl x2)] [] w (none, v) := by
  intro x1 x2 w v h
  unfold m_layBest_84 at h
  refine aw_aload_n (pc := 84) (q := 0) dX12_layBest_84 rfl ?_
  refine aw_getf (pc := 85) (v := .inr (.inr 64)) dX12_layBest_85 fl_RX12_72 (by decide) rfl rfl rfl ?_
  refine aw_iload_n (pc := 88) (q := 1) dX12_layBest_88 rfl ?_
  refine aw_iload_n (pc := 89) (q := 2) dX12_layBest_89 rfl ?_
  obtain ⟨hb, h⟩ := aw_cks h
  refine aw_iast (pc := 90) dX12_layBest_90 rfl hb.1 hb.2 ?_
  cases h
  exact aw_vret (pc := 91) rfl dX12_layBest_91
def m_layBest_78 (N : Nat) (k26 : Int → Int → Int → Int → aw_W → Option (aw_W)) (x1 x2 x3 x4 : Int) (w : aw_W) : Option (aw_W) :=
  k26 x1 x2 x3 (aw_w (x4 + 1)) w
theorem w_m_layBest_78 {l : Launch} {K : aw_K} (N d : Nat) (hd : 3 ≤ d) (k26 : Int → Int → Int → Int → aw_W → Option (aw_W)) (hk26 : ∀ (x1 x2 x3 x4 : Int) (w v : aw_W), k26 x1 x2 x3 x4 w = some v → aw_AW l K MX12_layBest (d + 1) 26 [(0, .inr (.inr 49)), (1, .inl x1), (2, .inl x2), (3, .inl x3), (4, .inl x4)] [] w (none, v)) : ∀ (x1 x2 x3 x4 : Int) (w v : aw_W), m_layBest_78 N k26 x1 x2 x3 x4 w = some v → aw_AW l K MX12_layBest (d + 1) 78 [(0, .inr (.inr 49)), (1, .inl x1), (2, .inl x2), (3, .inl x3), (4, .inl x4)] [] w (none, v) := by
  intro x1 x2 x3 x4 w v h
  unfold m_layBest_78 at h
  refine aw_iinc (pc := 78) (q := 4) (ls' := [(4, .inl (aw_w (x4 + 1))), (0, .inr (.inr 49)), (1, .inl x1), (2, .inl x2), (3, .inl x3)]) dX12_layBest_78 rfl (by decide) rfl ?_
  refine aw_goto (pc := 81) (tgt := 26) dX12_layBest_81 (by decide) ?_
  exact aw_sel [1, 2, 3, 4, 0] rfl (hk26 _ _ _ _ _ _ h)
def m_layBest_26 (N : Nat) : Nat → Int → Int → Int → Int → aw_W → Option (aw_W)
  | 0, _, _, _, _, _ => none
  | n + 1, x1, x2, x3, x4, w =>
    if (w 56 4) < x4 then
      m_layBest_84 N x1 x2 w
    else
      if 0 ≤ x1 ∧ x1 < 6 then
        aw_b2 (m_gainOf N x1 (aw_up w 64 x1.toNat x4)) fun r1 w1 =>
          if (w1 49 35) < (aw_w (r1 - x3)) then
            m_layBest_78 N (m_layBest_26 N n) x1 x2 x3 x4 (aw_up (aw_up w1 49 34 x4) 49 35 (aw_w (r1 - x3)))
          else
            m_layBest_78 N (m_layBest_26 N n) x1 x2 x3 x4 w1
      else none
theorem w_m_layBest_26 {l : Launch} {K : aw_K} (N d : Nat) (hd : 3 ≤ d) : ∀ (n : Nat) (x1 x2 x3 x4 : Int) (w v : aw_W), m_layBest_26 N n x1 x2 x3 x4 w = some v → aw_AW l K MX12_layBest (d + 1) 26 [(0, .inr (.inr 49)), (1, .inl x1), (2, .inl x2), (3, .inl x3), (4, .inl x4)] [] w (none, v) := by
  intro n
  induction n with
  | zero => intro x1 x2 x3 x4 w v h; rw [m_layBest_26] at h; cases h
  | succ n ih =>
    intro x1 x2 x3 x4 w v h
    rw [m_layBest_26] at h
    refine aw_iload (pc := 26) (q := 4) dX12_layBest_26 rfl ?_
    refine aw_aload_n (pc := 28) (q := 0) dX12_layBest_28 rfl ?_
    refine aw_getf (pc := 29) (v := .inr (.inr 56)) dX12_layBest_29 fl_RX12_43 (by decide) rfl rfl rfl ?_
    refine aw_iconst (pc := 32) dX12_layBest_32 ⟨by decide, by decide⟩ ?_
    refine aw_ialdv (pc := 33) (v := w 56 4) dX12_layBest_33 rfl (by decide) (by decide) rfl ?_
    refine aw_icmp_gt (pc := 34) (tgt := 84) dX12_layBest_34 (by decide) (fun hc => ?_) (fun hc => ?_)
    · rw [if_pos hc] at h
      exact aw_sel [0, 1, 2] rfl (w_m_layBest_84 N d hd  _ _ _ _ h)
    · rw [if_neg hc] at h
      refine aw_aload_n (pc := 37) (q := 0) dX12_layBest_37 rfl ?_
      refine aw_getf (pc := 38) (v := .inr (.inr 64)) dX12_layBest_38 fl_RX12_72 (by decide) rfl rfl rfl ?_
      refine aw_iload_n (pc := 41) (q := 1) dX12_layBest_41 rfl ?_
      refine aw_iload (pc := 42) (q := 4) dX12_layBest_42 rfl ?_
      obtain ⟨hb, h⟩ := aw_cks h
      refine aw_iast (pc := 44) dX12_layBest_44 rfl hb.1 hb.2 ?_
      refine aw_aload_n (pc := 45) (q := 0) dX12_layBest_45 rfl ?_
      refine aw_iload_n (pc := 46) (q := 1) dX12_layBest_46 rfl ?_
      obtain ⟨r1, w1, h1, h⟩ := aw_b2s h
      refine aw_callV (pc := 47) (as := [.inl x1]) (st := []) (st' := [.inl r1]) dX12_layBest_47 cv_RX12_348 (by decide) rfl rfl rfl rfl (Nat.le_of_ble_eq_true rfl) (w_m_gainOf N d (by omega) _ _ _ _ h1) rfl ?_
      refine aw_iload_n (pc := 50) (q := 3) dX12_layBest_50 rfl ?_
      refine aw_isub (pc := 51) dX12_layBest_51 ?_
      refine aw_istore (pc := 52) (ls' := [(5, .inl (aw_w (r1 - x3))), (0, .inr (.inr 49)), (1, .inl x1), (2, .inl x2), (3, .inl x3), (4, .inl x4)]) dX12_layBest_52 (by decide) rfl ?_
      refine aw_iload (pc := 54) (q := 0) dX12_layBest_54 rfl ?_
      refine aw_aload_n (pc := 56) (q := 1) dX12_layBest_56 rfl ?_
      refine aw_getf (pc := 57) (v := .inl (w1 49 35)) dX12_layBest_57 fl_RX12_354 (by decide) rfl rfl rfl ?_
      refine aw_icmp_gt (pc := 60) (tgt := 66) dX12_layBest_60 (by decide) (fun hc => ?_) (fun hc => ?_)
      · rw [if_pos hc] at h
        refine aw_aload_n (pc := 66) (q := 1) dX12_layBest_66 rfl ?_
        refine aw_iload (pc := 67) (q := 5) dX12_layBest_67 rfl ?_
        refine aw_puti (pc := 69) dX12_layBest_69 fp_RX12_351 (by decide) rfl rfl ?_
        refine aw_aload_n (pc := 72) (q := 1) dX12_layBest_72 rfl ?_
        refine aw_iload (pc := 73) (q := 0) dX12_layBest_73 rfl ?_
        refine aw_puti (pc := 75) dX12_layBest_75 fp_RX12_354 (by decide) rfl rfl ?_
        exact aw_sel [1, 2, 3, 4, 5] rfl (w_m_layBest_78 N d hd  _ ih _ _ _ _ _ _ h)
      · rw [if_neg hc] at h
        refine aw_goto (pc := 63) (tgt := 78) dX12_layBest_63 (by decide) ?_
        exact aw_sel [1, 2, 3, 4, 5] rfl (w_m_layBest_78 N d hd  _ ih _ _ _ _ _ _ h)
def m_layBest (N : Nat) (x1 : Int) (w : aw_W) : Option (aw_W) :=
  if 0 ≤ x1 ∧ x1 < 6 then
    aw_b2 (m_gainOf N x1 w) fun r1 w1 =>
      m_layBest_26 N N x1 (w 64 x1.toNat) r1 0 (aw_up (aw_up w1 49 34 (-1)) 49 35 0)
  else none
theorem w_m_layBest_d {l : Launch} {K : aw_K} (N d : Nat) (hd : 3 ≤ d) : ∀ (x1 : Int) (w v : aw_W), m_layBest N x1 w = some v → aw_Met l K MX12_layBest (d + 1) [.inr (.inr 49), .inl x1] w (none, v) := by
  intro x1 w v h
  unfold m_layBest at h
  refine aw_enter rfl (Nat.le_of_ble_eq_true rfl) ?_
  show aw_AW l K MX12_layBest (d + 1) 0 [(0, .inr (.inr 49)), (1, .inl x1)] [] w (none, v)
  refine aw_aload_n (pc := 0) (q := 0) dX12_layBest_0 rfl ?_
  refine aw_getf (pc := 1) (v := .inr (.inr 64)) dX12_layBest_1 fl_RX12_72 (by decide) rfl rfl rfl ?_
  refine aw_iload_n (pc := 4) (q := 1) dX12_layBest_4 rfl ?_
  obtain ⟨hb, h⟩ := aw_cks h
  refine aw_ialdv (pc := 5) (v := w 64 x1.toNat) dX12_layBest_5 rfl hb.1 hb.2 rfl ?_
  refine aw_istore_n (pc := 6) (ls' := [(2, .inl (w 64 x1.toNat)), (0, .inr (.inr 49)), (1, .inl x1)]) dX12_layBest_6 (by decide) rfl ?_
  refine aw_aload_n (pc := 7) (q := 1) dX12_layBest_7 rfl ?_
  refine aw_iload_n (pc := 8) (q := 2) dX12_layBest_8 rfl ?_
  obtain ⟨r1, w1, h1, h⟩ := aw_b2s h
  refine aw_callV (pc := 9) (as := [.inl x1]) (st := []) (st' := [.inl r1]) dX12_layBest_9 cv_RX12_348 (by decide) rfl rfl rfl rfl (Nat.le_of_ble_eq_true rfl) (w_m_gainOf N d (by omega) _ _ _ _ h1) rfl ?_
  refine aw_istore_n (pc := 12) (ls' := [(3, .inl r1), (2, .inl (w 64 x1.toNat)), (0, .inr (.inr 49)), (1, .inl x1)]) dX12_layBest_12 (by decide) rfl ?_
  refine aw_aload_n (pc := 13) (q := 2) dX12_layBest_13 rfl ?_
  refine aw_iconst (pc := 14) dX12_layBest_14 ⟨by decide, by decide⟩ ?_
  refine aw_puti (pc := 15) dX12_layBest_15 fp_RX12_351 (by decide) rfl rfl ?_
  refine aw_aload_n (pc := 18) (q := 2) dX12_layBest_18 rfl ?_
  refine aw_iconst (pc := 19) dX12_layBest_19 ⟨by decide, by decide⟩ ?_
  refine aw_puti (pc := 20) dX12_layBest_20 fp_RX12_354 (by decide) rfl rfl ?_
  refine aw_iconst (pc := 23) dX12_layBest_23 ⟨by decide, by decide⟩ ?_
  refine aw_istore (pc := 24) (ls' := [(4, .inl 0), (3, .inl r1), (2, .inl (w 64 x1.toNat)), (0, .inr (.inr 49)), (1, .inl x1)]) dX12_layBest_24 (by decide) rfl ?_
  exact aw_sel [3, 4, 2, 1, 0] rfl (w_m_layBest_26 N d hd  N _ _ _ _ _ _ h)
theorem w_m_layBest {l : Launch} {K : aw_K} (N d : Nat) (hd : 4 ≤ d) : ∀ (x1 : Int) (w v : aw_W), m_layBest N x1 w = some v → aw_Met l K MX12_layBest (d) [.inr (.inr 49), .inl x1] w (none, v) := by
  obtain ⟨e, rfl⟩ : ∃ e, d = e + 1 := ⟨d - 1, by omega⟩
  exact w_m_layBest_d N e (by omega)
theorem dX12_cure_0 : decode cX12_cure 0 = .ok (.aload_n 0, 1) := by decide +kernel
theorem dX12_cure_1 : decode cX12_cure 1 = .ok (.iconst 0, 1) := by decide +kernel
theorem dX12_cure_2 : decode cX12_cure 2 = .ok (.putfield 99, 3) := by decide +kernel
theorem dX12_cure_5 : decode cX12_cure 5 = .ok (.aload_n 0, 1) := by decide +kernel
theorem dX12_cure_6 : decode cX12_cure 6 = .ok (.getfield 270, 3) := by decide +kernel
theorem dX12_cure_9 : decode cX12_cure 9 = .ok (.ifCond .eq 23, 3) := by decide +kernel
theorem dX12_cure_12 : decode cX12_cure 12 = .ok (.iload_n 2, 1) := by decide +kernel
theorem dX12_cure_13 : decode cX12_cure 13 = .ok (.i2l, 1) := by decide +kernel
theorem dX12_cure_14 : decode cX12_cure 14 = .ok (.lconst 0, 1) := by decide +kernel
theorem dX12_cure_15 : decode cX12_cure 15 = .ok (.ldc2_w 313, 3) := by decide +kernel
theorem dX12_cure_18 : decode cX12_cure 18 = .ok (.invokestatic 227, 3) := by decide +kernel
theorem dX12_cure_21 : decode cX12_cure 21 = .ok (.ifCond .eq 11, 3) := by decide +kernel
theorem dX12_cure_24 : decode cX12_cure 24 = .ok (.aload_n 0, 1) := by decide +kernel
theorem dX12_cure_25 : decode cX12_cure 25 = .ok (.iload_n 1, 1) := by decide +kernel
theorem dX12_cure_26 : decode cX12_cure 26 = .ok (.invokevirtual 342, 3) := by decide +kernel
theorem dX12_cure_29 : decode cX12_cure 29 = .ok (.ifCond .ne 7, 3) := by decide +kernel
theorem dX12_cure_32 : decode cX12_cure 32 = .ok (.ldc_w 315, 3) := by decide +kernel
theorem dX12_cure_35 : decode cX12_cure 35 = .ok (.ireturn, 1) := by decide +kernel
theorem dX12_cure_36 : decode cX12_cure 36 = .ok (.iconst (-1), 1) := by decide +kernel
theorem dX12_cure_37 : decode cX12_cure 37 = .ok (.istore_n 3, 1) := by decide +kernel
theorem dX12_cure_38 : decode cX12_cure 38 = .ok (.iconst (-1), 1) := by decide +kernel
theorem dX12_cure_39 : decode cX12_cure 39 = .ok (.istore 4, 2) := by decide +kernel
theorem dX12_cure_41 : decode cX12_cure 41 = .ok (.iconst 0, 1) := by decide +kernel
theorem dX12_cure_42 : decode cX12_cure 42 = .ok (.istore 5, 2) := by decide +kernel
theorem dX12_cure_44 : decode cX12_cure 44 = .ok (.iconst 0, 1) := by decide +kernel
theorem dX12_cure_45 : decode cX12_cure 45 = .ok (.istore 6, 2) := by decide +kernel
theorem dX12_cure_47 : decode cX12_cure 47 = .ok (.iload 6, 2) := by decide +kernel
theorem dX12_cure_49 : decode cX12_cure 49 = .ok (.aload_n 0, 1) := by decide +kernel
theorem dX12_cure_50 : decode cX12_cure 50 = .ok (.getfield 270, 3) := by decide +kernel
theorem dX12_cure_53 : decode cX12_cure 53 = .ok (.if_icmp .ge 42, 3) := by decide +kernel
theorem dX12_cure_56 : decode cX12_cure 56 = .ok (.aload_n 0, 1) := by decide +kernel
theorem dX12_cure_57 : decode cX12_cure 57 = .ok (.iload 6, 2) := by decide +kernel
theorem dX12_cure_59 : decode cX12_cure 59 = .ok (.invokevirtual 357, 3) := by decide +kernel
theorem dX12_cure_62 : decode cX12_cure 62 = .ok (.aload_n 0, 1) := by decide +kernel
theorem dX12_cure_63 : decode cX12_cure 63 = .ok (.getfield 354, 3) := by decide +kernel
theorem dX12_cure_66 : decode cX12_cure 66 = .ok (.iload 5, 2) := by decide +kernel
theorem dX12_cure_68 : decode cX12_cure 68 = .ok (.if_icmp .gt 6, 3) := by decide +kernel
theorem dX12_cure_71 : decode cX12_cure 71 = .ok (.goto 18, 3) := by decide +kernel
theorem dX12_cure_74 : decode cX12_cure 74 = .ok (.iload 6, 2) := by decide +kernel
theorem dX12_cure_76 : decode cX12_cure 76 = .ok (.istore_n 3, 1) := by decide +kernel
theorem dX12_cure_77 : decode cX12_cure 77 = .ok (.aload_n 0, 1) := by decide +kernel
theorem dX12_cure_78 : decode cX12_cure 78 = .ok (.getfield 351, 3) := by decide +kernel
theorem dX12_cure_81 : decode cX12_cure 81 = .ok (.istore 4, 2) := by decide +kernel
theorem dX12_cure_83 : decode cX12_cure 83 = .ok (.aload_n 0, 1) := by decide +kernel
theorem dX12_cure_84 : decode cX12_cure 84 = .ok (.getfield 354, 3) := by decide +kernel
theorem dX12_cure_87 : decode cX12_cure 87 = .ok (.istore 5, 2) := by decide +kernel
theorem dX12_cure_89 : decode cX12_cure 89 = .ok (.iinc 6 1, 3) := by decide +kernel
theorem dX12_cure_92 : decode cX12_cure 92 = .ok (.goto (-45), 3) := by decide +kernel
theorem dX12_cure_95 : decode cX12_cure 95 = .ok (.iload_n 2, 1) := by decide +kernel
theorem dX12_cure_96 : decode cX12_cure 96 = .ok (.ifCond .ne 7, 3) := by decide +kernel
theorem dX12_cure_99 : decode cX12_cure 99 = .ok (.iload_n 3, 1) := by decide +kernel
theorem dX12_cure_100 : decode cX12_cure 100 = .ok (.goto 15, 3) := by decide +kernel
theorem dX12_cure_103 : decode cX12_cure 103 = .ok (.iload_n 2, 1) := by decide +kernel
theorem dX12_cure_104 : decode cX12_cure 104 = .ok (.iconst 1, 1) := by decide +kernel
theorem dX12_cure_105 : decode cX12_cure 105 = .ok (.if_icmp .ne 8, 3) := by decide +kernel
theorem dX12_cure_108 : decode cX12_cure 108 = .ok (.iload 4, 2) := by decide +kernel
theorem dX12_cure_110 : decode cX12_cure 110 = .ok (.goto 5, 3) := by decide +kernel
theorem dX12_cure_113 : decode cX12_cure 113 = .ok (.iload 5, 2) := by decide +kernel
theorem dX12_cure_115 : decode cX12_cure 115 = .ok (.ireturn, 1) := by decide +kernel
def m_cure_32 (N : Nat) (w : aw_W) : Option (Int × aw_W) :=
  some ((-1000000), w)
theorem w_m_cure_32 {l : Launch} {K : aw_K} (N d : Nat) (hd : 4 ≤ d) : ∀ (w : aw_W) (y : Int) (v : aw_W), m_cure_32 N w = some (y, v) → aw_AW l K MX12_cure (d + 1) 32 [] [] w (some (.inl y), v) := by
  intro w y v h
  unfold m_cure_32 at h
  refine aw_ldcw (pc := 32) (x := (-1000000)) dX12_cure_32 cn_RX12_315 ⟨by decide, by decide⟩ ?_
  cases h
  exact aw_iret (pc := 35) rfl dX12_cure_35
def m_cure_115 (N : Nat) (s0 : Int) (w : aw_W) : Option (Int × aw_W) :=
  some (s0, w)
theorem w_m_cure_115 {l : Launch} {K : aw_K} (N d : Nat) (hd : 4 ≤ d) : ∀ (s0 : Int) (w : aw_W) (y : Int) (v : aw_W), m_cure_115 N s0 w = some (y, v) → aw_AW l K MX12_cure (d + 1) 115 [] [.inl s0] w (some (.inl y), v) := by
  intro s0 w y v h
  unfold m_cure_115 at h
  cases h
  exact aw_iret (pc := 115) rfl dX12_cure_115
def m_cure_95 (N : Nat) (x2 x3 x4 x5 : Int) (w : aw_W) : Option (Int × aw_W) :=
  if x2 = 0 then
    m_cure_115 N x3 w
  else
    if x2 = 1 then
      m_cure_115 N x4 w
    else
      m_cure_115 N x5 w
theorem w_m_cure_95 {l : Launch} {K : aw_K} (N d : Nat) (hd : 4 ≤ d) : ∀ (x2 x3 x4 x5 : Int) (w : aw_W) (y : Int) (v : aw_W), m_cure_95 N x2 x3 x4 x5 w = some (y, v) → aw_AW l K MX12_cure (d + 1) 95 [(2, .inl x2), (3, .inl x3), (4, .inl x4), (5, .inl x5)] [] w (some (.inl y), v) := by
  intro x2 x3 x4 x5 w y v h
  unfold m_cure_95 at h
  refine aw_iload_n (pc := 95) (q := 0) dX12_cure_95 rfl ?_
  refine aw_if_ne (pc := 96) (tgt := 103) dX12_cure_96 (by decide) (fun hc => ?_) (fun hc => ?_)
  · rw [if_neg hc] at h
    refine aw_iload_n (pc := 103) (q := 0) dX12_cure_103 rfl ?_
    refine aw_iconst (pc := 104) dX12_cure_104 ⟨by decide, by decide⟩ ?_
    refine aw_icmp_ne (pc := 105) (tgt := 113) dX12_cure_105 (by decide) (fun hc => ?_) (fun hc => ?_)
    · rw [if_neg hc] at h
      refine aw_iload (pc := 113) (q := 3) dX12_cure_113 rfl ?_
      exact aw_sel [] rfl (w_m_cure_115 N d hd  _ _ _ _ h)
    · rw [if_pos hc] at h
      refine aw_iload (pc := 108) (q := 2) dX12_cure_108 rfl ?_
      refine aw_goto (pc := 110) (tgt := 115) dX12_cure_110 (by decide) ?_
      exact aw_sel [] rfl (w_m_cure_115 N d hd  _ _ _ _ h)
  · rw [if_pos hc] at h
    refine aw_iload_n (pc := 99) (q := 1) dX12_cure_99 rfl ?_
    refine aw_goto (pc := 100) (tgt := 115) dX12_cure_100 (by decide) ?_
    exact aw_sel [] rfl (w_m_cure_115 N d hd  _ _ _ _ h)
def m_cure_89 (N : Nat) (k47 : Int → Int → Int → Int → Int → aw_W → Option (Int × aw_W)) (x2 x3 x4 x5 x6 : Int) (w : aw_W) : Option (Int × aw_W) :=
  k47 x2 x3 x4 x5 (aw_w (x6 + 1)) w
theorem w_m_cure_89 {l : Launch} {K : aw_K} (N d : Nat) (hd : 4 ≤ d) (k47 : Int → Int → Int → Int → Int → aw_W → Option (Int × aw_W)) (hk47 : ∀ (x2 x3 x4 x5 x6 : Int) (w : aw_W) (y : Int) (v : aw_W), k47 x2 x3 x4 x5 x6 w = some (y, v) → aw_AW l K MX12_cure (d + 1) 47 [(0, .inr (.inr 49)), (2, .inl x2), (3, .inl x3), (4, .inl x4), (5, .inl x5), (6, .inl x6)] [] w (some (.inl y), v)) : ∀ (x2 x3 x4 x5 x6 : Int) (w : aw_W) (y : Int) (v : aw_W), m_cure_89 N k47 x2 x3 x4 x5 x6 w = some (y, v) → aw_AW l K MX12_cure (d + 1) 89 [(0, .inr (.inr 49)), (2, .inl x2), (3, .inl x3), (4, .inl x4), (5, .inl x5), (6, .inl x6)] [] w (some (.inl y), v) := by
  intro x2 x3 x4 x5 x6 w y v h
  unfold m_cure_89 at h
  refine aw_iinc (pc := 89) (q := 5) (ls' := [(6, .inl (aw_w (x6 + 1))), (0, .inr (.inr 49)), (2, .inl x2), (3, .inl x3), (4, .inl x4), (5, .inl x5)]) dX12_cure_89 rfl (by decide) rfl ?_
  refine aw_goto (pc := 92) (tgt := 47) dX12_cure_92 (by decide) ?_
  exact aw_sel [1, 2, 3, 4, 5, 0] rfl (hk47 _ _ _ _ _ _ _ _ h)
def m_cure_47 (N : Nat) : Nat → Int → Int → Int → Int → Int → aw_W → Option (Int × aw_W)
  | 0, _, _, _, _, _, _ => none
  | n + 1, x2, x3, x4, x5, x6, w =>
    if (w 49 22) ≤ x6 then
      m_cure_95 N x2 x3 x4 x5 w
    else
      aw_b1 (m_layBest N x6 w) fun w1 =>
        if x5 < (w1 49 35) then
          m_cure_89 N (m_cure_47 N n) x2 x6 (w1 49 34) (w1 49 35) x6 w1
        else
          m_cure_89 N (m_cure_47 N n) x2 x3 x4 x5 x6 w1
theorem w_m_cure_47 {l : Launch} {K : aw_K} (N d : Nat) (hd : 4 ≤ d) : ∀ (n : Nat) (x2 x3 x4 x5 x6 : Int) (w : aw_W) (y : Int) (v : aw_W), m_cure_47 N n x2 x3 x4 x5 x6 w = some (y, v) → aw_AW l K MX12_cure (d + 1) 47 [(0, .inr (.inr 49)), (2, .inl x2), (3, .inl x3), (4, .inl x4), (5, .inl x5), (6, .inl x6)] [] w (some (.inl y), v) := by
  intro n
  induction n with
  | zero => intro x2 x3 x4 x5 x6 w y v h; rw [m_cure_47] at h; cases h
  | succ n ih =>
    intro x2 x3 x4 x5 x6 w y v h
    rw [m_cure_47] at h
    refine aw_iload (pc := 47) (q := 5) dX12_cure_47 rfl ?_
    refine aw_aload_n (pc := 49) (q := 0) dX12_cure_49 rfl ?_
    refine aw_getf (pc := 50) (v := .inl (w 49 22)) dX12_cure_50 fl_RX12_270 (by decide) rfl rfl rfl ?_
    refine aw_icmp_ge (pc := 53) (tgt := 95) dX12_cure_53 (by decide) (fun hc => ?_) (fun hc => ?_)
    · rw [if_pos hc] at h
      exact aw_sel [1, 2, 3, 4] rfl (w_m_cure_95 N d hd  _ _ _ _ _ _ _ h)
    · rw [if_neg hc] at h
      refine aw_aload_n (pc := 56) (q := 0) dX12_cure_56 rfl ?_
      refine aw_iload (pc := 57) (q := 5) dX12_cure_57 rfl ?_
      obtain ⟨w1, h1, h⟩ := aw_b1s h
      refine aw_callV (pc := 59) (as := [.inl x6]) (st := []) (st' := []) dX12_cure_59 cv_RX12_357 (by decide) rfl rfl rfl rfl (Nat.le_of_ble_eq_true rfl) (w_m_layBest N d (by omega) _ _ _ h1) rfl ?_
      refine aw_aload_n (pc := 62) (q := 0) dX12_cure_62 rfl ?_
      refine aw_getf (pc := 63) (v := .inl (w1 49 35)) dX12_cure_63 fl_RX12_354 (by decide) rfl rfl rfl ?_
      refine aw_iload (pc := 66) (q := 4) dX12_cure_66 rfl ?_
      refine aw_icmp_gt (pc := 68) (tgt := 74) dX12_cure_68 (by decide) (fun hc => ?_) (fun hc => ?_)
      · rw [if_pos hc] at h
        refine aw_iload (pc := 74) (q := 5) dX12_cure_74 rfl ?_
        refine aw_istore_n (pc := 76) (ls' := [(3, .inl x6), (0, .inr (.inr 49)), (2, .inl x2), (4, .inl x4), (5, .inl x5), (6, .inl x6)]) dX12_cure_76 (by decide) rfl ?_
        refine aw_aload_n (pc := 77) (q := 1) dX12_cure_77 rfl ?_
        refine aw_getf (pc := 78) (v := .inl (w1 49 34)) dX12_cure_78 fl_RX12_351 (by decide) rfl rfl rfl ?_
        refine aw_istore (pc := 81) (ls' := [(4, .inl (w1 49 34)), (3, .inl x6), (0, .inr (.inr 49)), (2, .inl x2), (5, .inl x5), (6, .inl x6)]) dX12_cure_81 (by decide) rfl ?_
        refine aw_aload_n (pc := 83) (q := 2) dX12_cure_83 rfl ?_
        refine aw_getf (pc := 84) (v := .inl (w1 49 35)) dX12_cure_84 fl_RX12_354 (by decide) rfl rfl rfl ?_
        refine aw_istore (pc := 87) (ls' := [(5, .inl (w1 49 35)), (4, .inl (w1 49 34)), (3, .inl x6), (0, .inr (.inr 49)), (2, .inl x2), (6, .inl x6)]) dX12_cure_87 (by decide) rfl ?_
        exact aw_sel [3, 4, 2, 1, 0, 5] rfl (w_m_cure_89 N d hd  _ ih _ _ _ _ _ _ _ _ h)
      · rw [if_neg hc] at h
        refine aw_goto (pc := 71) (tgt := 89) dX12_cure_71 (by decide) ?_
        exact aw_sel [0, 1, 2, 3, 4, 5] rfl (w_m_cure_89 N d hd  _ ih _ _ _ _ _ _ _ _ h)
def m_cure (N : Nat) (x1 x2 : Int) (w : aw_W) : Option (Int × aw_W) :=
  if (w 49 22) = 0 then
    m_cure_32 N (aw_up w 49 0 0)
  else
    aw_b2 (m_isIn N x2 0 2 (aw_up w 49 0 0)) fun r1 w1 =>
      if r1 = 0 then
        m_cure_32 N w1
      else
        aw_b2 (m_lay N x1 w1) fun r2 w2 =>
          if r2 = 0 then
            m_cure_32 N w2
          else
            m_cure_47 N N x2 (-1) (-1) 0 0 w2
theorem w_m_cure_d {l : Launch} {K : aw_K} (N d : Nat) (hd : 4 ≤ d) : ∀ (x1 x2 : Int) (w : aw_W) (y : Int) (v : aw_W), m_cure N x1 x2 w = some (y, v) → aw_Met l K MX12_cure (d + 1) [.inr (.inr 49), .inl x1, .inl x2] w (some (.inl y), v) := by
  intro x1 x2 w y v h
  unfold m_cure at h
  refine aw_enter rfl (Nat.le_of_ble_eq_true rfl) ?_
  show aw_AW l K MX12_cure (d + 1) 0 [(0, .inr (.inr 49)), (1, .inl x1), (2, .inl x2)] [] w (some (.inl y), v)
  refine aw_aload_n (pc := 0) (q := 0) dX12_cure_0 rfl ?_
  refine aw_iconst (pc := 1) dX12_cure_1 ⟨by decide, by decide⟩ ?_
  refine aw_puti (pc := 2) dX12_cure_2 fp_RX12_99 (by decide) rfl rfl ?_
  refine aw_aload_n (pc := 5) (q := 0) dX12_cure_5 rfl ?_
  refine aw_getf (pc := 6) (v := .inl (w 49 22)) dX12_cure_6 fl_RX12_270 (by decide) rfl rfl rfl ?_
  refine aw_if_eq (pc := 9) (tgt := 32) dX12_cure_9 (by decide) (fun hc => ?_) (fun hc => ?_)
  · rw [if_pos hc] at h
    exact aw_sel [] rfl (w_m_cure_32 N d hd  _ _ _ h)
  · rw [if_neg hc] at h
    refine aw_iload_n (pc := 12) (q := 2) dX12_cure_12 rfl ?_
    refine aw_i2l (pc := 13) dX12_cure_13 ?_
    refine aw_lconst (pc := 14) (x := 0) dX12_cure_14 (by decide) ⟨by decide, by decide⟩ ?_
    refine aw_ldc2 (pc := 15) (x := 2) dX12_cure_15 cl_RX12_313 ⟨by decide, by decide⟩ ?_
    obtain ⟨r1, w1, h1, h⟩ := aw_b2s h
    refine aw_callS (pc := 18) (as := [.inr (.inl x2), .inr (.inl 0), .inr (.inl 2)]) (st := []) (st' := [.inl r1]) dX12_cure_18 cs_RX12_227 rfl rfl (Nat.le_of_ble_eq_true rfl) (w_m_isIn N d (by omega) _ _ _ _ _ _ h1) rfl ?_
    refine aw_if_eq (pc := 21) (tgt := 32) dX12_cure_21 (by decide) (fun hc => ?_) (fun hc => ?_)
    · rw [if_pos hc] at h
      exact aw_sel [] rfl (w_m_cure_32 N d hd  _ _ _ h)
    · rw [if_neg hc] at h
      refine aw_aload_n (pc := 24) (q := 0) dX12_cure_24 rfl ?_
      refine aw_iload_n (pc := 25) (q := 1) dX12_cure_25 rfl ?_
      obtain ⟨r2, w2, h2, h⟩ := aw_b2s h
      refine aw_callV (pc := 26) (as := [.inl x1]) (st := []) (st' := [.inl r2]) dX12_cure_26 cv_RX12_342 (by decide) rfl rfl rfl rfl (Nat.le_of_ble_eq_true rfl) (w_m_lay N d (by omega) _ _ _ _ h2) rfl ?_
      refine aw_if_ne (pc := 29) (tgt := 36) dX12_cure_29 (by decide) (fun hc => ?_) (fun hc => ?_)
      · rw [if_neg hc] at h
        refine aw_iconst (pc := 36) dX12_cure_36 ⟨by decide, by decide⟩ ?_
        refine aw_istore_n (pc := 37) (ls' := [(3, .inl (-1)), (0, .inr (.inr 49)), (1, .inl x1), (2, .inl x2)]) dX12_cure_37 (by decide) rfl ?_
        refine aw_iconst (pc := 38) dX12_cure_38 ⟨by decide, by decide⟩ ?_
        refine aw_istore (pc := 39) (ls' := [(4, .inl (-1)), (3, .inl (-1)), (0, .inr (.inr 49)), (1, .inl x1), (2, .inl x2)]) dX12_cure_39 (by decide) rfl ?_
        refine aw_iconst (pc := 41) dX12_cure_41 ⟨by decide, by decide⟩ ?_
        refine aw_istore (pc := 42) (ls' := [(5, .inl 0), (4, .inl (-1)), (3, .inl (-1)), (0, .inr (.inr 49)), (1, .inl x1), (2, .inl x2)]) dX12_cure_42 (by decide) rfl ?_
        refine aw_iconst (pc := 44) dX12_cure_44 ⟨by decide, by decide⟩ ?_
        refine aw_istore (pc := 45) (ls' := [(6, .inl 0), (5, .inl 0), (4, .inl (-1)), (3, .inl (-1)), (0, .inr (.inr 49)), (1, .inl x1), (2, .inl x2)]) dX12_cure_45 (by decide) rfl ?_
        exact aw_sel [4, 6, 3, 2, 1, 0] rfl (w_m_cure_47 N d hd  N _ _ _ _ _ _ _ _ h)
      · rw [if_pos hc] at h
        exact aw_sel [] rfl (w_m_cure_32 N d hd  _ _ _ h)
theorem w_m_cure {l : Launch} {K : aw_K} (N d : Nat) (hd : 5 ≤ d) : ∀ (x1 x2 : Int) (w : aw_W) (y : Int) (v : aw_W), m_cure N x1 x2 w = some (y, v) → aw_Met l K MX12_cure (d) [.inr (.inr 49), .inl x1, .inl x2] w (some (.inl y), v) := by
  obtain ⟨e, rfl⟩ : ∃ e, d = e + 1 := ⟨d - 1, by omega⟩
  exact w_m_cure_d N e (by omega)
theorem dX12_end_0 : decode cX12_end 0 = .ok (.aload_n 0, 1) := by decide +kernel
theorem dX12_end_1 : decode cX12_end 1 = .ok (.iconst 0, 1) := by decide +kernel
theorem dX12_end_2 : decode cX12_end 2 = .ok (.putfield 99, 3) := by decide +kernel
theorem dX12_end_5 : decode cX12_end 5 = .ok (.iload_n 1, 1) := by decide +kernel
theorem dX12_end_6 : decode cX12_end 6 = .ok (.ifCond .lt 11, 3) := by decide +kernel
theorem dX12_end_9 : decode cX12_end 9 = .ok (.iload_n 1, 1) := by decide +kernel
theorem dX12_end_10 : decode cX12_end 10 = .ok (.aload_n 0, 1) := by decide +kernel
theorem dX12_end_11 : decode cX12_end 11 = .ok (.getfield 112, 3) := by decide +kernel
theorem dX12_end_14 : decode cX12_end 14 = .ok (.if_icmp .le 5, 3) := by decide +kernel
theorem dX12_end_17 : decode cX12_end 17 = .ok (.iconst 0, 1) := by decide +kernel
theorem dX12_end_18 : decode cX12_end 18 = .ok (.ireturn, 1) := by decide +kernel
theorem dX12_end_19 : decode cX12_end 19 = .ok (.aload_n 0, 1) := by decide +kernel
theorem dX12_end_20 : decode cX12_end 20 = .ok (.iload_n 1, 1) := by decide +kernel
theorem dX12_end_21 : decode cX12_end 21 = .ok (.putfield 112, 3) := by decide +kernel
theorem dX12_end_24 : decode cX12_end 24 = .ok (.iconst 1, 1) := by decide +kernel
theorem dX12_end_25 : decode cX12_end 25 = .ok (.ireturn, 1) := by decide +kernel
def m_end_17 (N : Nat) (w : aw_W) : Option (Int × aw_W) :=
  some (0, w)
theorem w_m_end_17 {l : Launch} {K : aw_K} (N d : Nat) : ∀ (w : aw_W) (y : Int) (v : aw_W), m_end_17 N w = some (y, v) → aw_AW l K MX12_end (d) 17 [] [] w (some (.inl y), v) := by
  intro w y v h
  unfold m_end_17 at h
  refine aw_iconst (pc := 17) dX12_end_17 ⟨by decide, by decide⟩ ?_
  cases h
  exact aw_zret (pc := 18) rfl (by decide) dX12_end_18
def m_end (N : Nat) (x1 : Int) (w : aw_W) : Option (Int × aw_W) :=
  if x1 < 0 then
    m_end_17 N (aw_up w 49 0 0)
  else
    if x1 ≤ (w 49 6) then
      some (1, (aw_up (aw_up w 49 0 0) 49 6 x1))
    else
      m_end_17 N (aw_up w 49 0 0)
theorem w_m_end {l : Launch} {K : aw_K} (N d : Nat) (hd : 0 ≤ d) : ∀ (x1 : Int) (w : aw_W) (y : Int) (v : aw_W), m_end N x1 w = some (y, v) → aw_Met l K MX12_end (d) [.inr (.inr 49), .inl x1] w (some (.inl y), v) := by
  intro x1 w y v h
  unfold m_end at h
  refine aw_enter rfl (Nat.le_of_ble_eq_true rfl) ?_
  show aw_AW l K MX12_end (d) 0 [(0, .inr (.inr 49)), (1, .inl x1)] [] w (some (.inl y), v)
  refine aw_aload_n (pc := 0) (q := 0) dX12_end_0 rfl ?_
  refine aw_iconst (pc := 1) dX12_end_1 ⟨by decide, by decide⟩ ?_
  refine aw_puti (pc := 2) dX12_end_2 fp_RX12_99 (by decide) rfl rfl ?_
  refine aw_iload_n (pc := 5) (q := 1) dX12_end_5 rfl ?_
  refine aw_if_lt (pc := 6) (tgt := 17) dX12_end_6 (by decide) (fun hc => ?_) (fun hc => ?_)
  · rw [if_pos hc] at h
    exact aw_sel [] rfl (w_m_end_17 N d  _ _ _ h)
  · rw [if_neg hc] at h
    refine aw_iload_n (pc := 9) (q := 1) dX12_end_9 rfl ?_
    refine aw_aload_n (pc := 10) (q := 0) dX12_end_10 rfl ?_
    refine aw_getf (pc := 11) (v := .inl (w 49 6)) dX12_end_11 fl_RX12_112 (by decide) rfl rfl rfl ?_
    refine aw_icmp_le (pc := 14) (tgt := 19) dX12_end_14 (by decide) (fun hc => ?_) (fun hc => ?_)
    · rw [if_pos hc] at h
      refine aw_aload_n (pc := 19) (q := 0) dX12_end_19 rfl ?_
      refine aw_iload_n (pc := 20) (q := 1) dX12_end_20 rfl ?_
      refine aw_puti (pc := 21) dX12_end_21 fp_RX12_112 (by decide) rfl rfl ?_
      refine aw_iconst (pc := 24) dX12_end_24 ⟨by decide, by decide⟩ ?_
      cases h
      exact aw_zret (pc := 25) rfl (by decide) dX12_end_25
    · rw [if_neg hc] at h
      exact aw_sel [] rfl (w_m_end_17 N d  _ _ _ h)
def m_opens_49_50 (N : Nat) (x2 x3 : Int) (w : aw_W) : Option (aw_W) :=
  some (aw_up (aw_up (aw_up (aw_up (aw_up w 49 5 50) 49 8 x2) 49 9 x3) 49 10 0) 49 11 (-1))
theorem w_m_opens_49_50 {l : Launch} {K : aw_K} (N d : Nat) (hd : 0 ≤ d) : ∀ (x2 x3 : Int) (w v : aw_W), m_opens_49_50 N x2 x3 w = some v → aw_Met l K MX12_opens (d) [.inr (.inr 49), .inr (.inr 50), .inl x2, .inl x3] w (none, v) := by
  intro x2 x3 w v h
  unfold m_opens_49_50 at h
  refine aw_enter rfl (Nat.le_of_ble_eq_true rfl) ?_
  show aw_AW l K MX12_opens (d) 0 [(0, .inr (.inr 49)), (1, .inr (.inr 50)), (2, .inl x2), (3, .inl x3)] [] w (none, v)
  refine aw_aload_n (pc := 0) (q := 0) dX12_opens_0 rfl ?_
  refine aw_aload_n (pc := 1) (q := 1) dX12_opens_1 rfl ?_
  refine aw_putr (pc := 2) dX12_opens_2 fp_RX12_23 (by decide) rfl rfl ⟨by decide, by decide⟩ ?_
  refine aw_aload_n (pc := 5) (q := 0) dX12_opens_5 rfl ?_
  refine aw_iload_n (pc := 6) (q := 2) dX12_opens_6 rfl ?_
  refine aw_puti (pc := 7) dX12_opens_7 fp_RX12_128 (by decide) rfl rfl ?_
  refine aw_aload_n (pc := 10) (q := 0) dX12_opens_10 rfl ?_
  refine aw_iload_n (pc := 11) (q := 3) dX12_opens_11 rfl ?_
  refine aw_puti (pc := 12) dX12_opens_12 fp_RX12_125 (by decide) rfl rfl ?_
  refine aw_aload_n (pc := 15) (q := 0) dX12_opens_15 rfl ?_
  refine aw_iconst (pc := 16) dX12_opens_16 ⟨by decide, by decide⟩ ?_
  refine aw_puti (pc := 17) dX12_opens_17 fp_RX12_122 (by decide) rfl rfl ?_
  refine aw_aload_n (pc := 20) (q := 0) dX12_opens_20 rfl ?_
  refine aw_iconst (pc := 21) dX12_opens_21 ⟨by decide, by decide⟩ ?_
  refine aw_puti (pc := 22) dX12_opens_22 fp_RX12_131 (by decide) rfl rfl ?_
  cases h
  exact aw_vret (pc := 25) rfl dX12_opens_25
