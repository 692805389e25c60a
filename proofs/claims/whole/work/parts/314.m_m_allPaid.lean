theorem dX12_allPaid_0 : decode cX12_allPaid 0 = .ok (.aload_n 0, 1) := by decide +kernel
theorem dX12_allPaid_1 : decode cX12_allPaid 1 = .ok (.invokevirtual 326, 3) := by decide +kernel
theorem dX12_allPaid_4 : decode cX12_allPaid 4 = .ok (.aload_n 0, 1) := by decide +kernel
theorem dX12_allPaid_5 : decode cX12_allPaid 5 = .ok (.invokevirtual 320, 3) := by decide +kernel
theorem dX12_allPaid_8 : decode cX12_allPaid 8 = .ok (.iconst (-1), 1) := by decide +kernel
theorem dX12_allPaid_9 : decode cX12_allPaid 9 = .ok (.if_icmp .ne 7, 3) := by decide +kernel
theorem dX12_allPaid_12 : decode cX12_allPaid 12 = .ok (.iconst 0, 1) := by decide +kernel
theorem dX12_allPaid_13 : decode cX12_allPaid 13 = .ok (.goto 11, 3) := by decide +kernel
theorem dX12_allPaid_16 : decode cX12_allPaid 16 = .ok (.aload_n 0, 1) := by decide +kernel
theorem dX12_allPaid_17 : decode cX12_allPaid 17 = .ok (.aload_n 0, 1) := by decide +kernel
theorem dX12_allPaid_18 : decode cX12_allPaid 18 = .ok (.invokevirtual 320, 3) := by decide +kernel
theorem dX12_allPaid_21 : decode cX12_allPaid 21 = .ok (.invokevirtual 329, 3) := by decide +kernel
theorem dX12_allPaid_24 : decode cX12_allPaid 24 = .ok (.aload_n 0, 1) := by decide +kernel
theorem dX12_allPaid_25 : decode cX12_allPaid 25 = .ok (.getfield 43, 3) := by decide +kernel
theorem dX12_allPaid_28 : decode cX12_allPaid 28 = .ok (.iconst 3, 1) := by decide +kernel
theorem dX12_allPaid_29 : decode cX12_allPaid 29 = .ok (.iaload, 1) := by decide +kernel
theorem dX12_allPaid_30 : decode cX12_allPaid 30 = .ok (.aload_n 0, 1) := by decide +kernel
theorem dX12_allPaid_31 : decode cX12_allPaid 31 = .ok (.invokevirtual 332, 3) := by decide +kernel
theorem dX12_allPaid_34 : decode cX12_allPaid 34 = .ok (.invokestatic 335, 3) := by decide +kernel
theorem dX12_allPaid_37 : decode cX12_allPaid 37 = .ok (.imul, 1) := by decide +kernel
theorem dX12_allPaid_38 : decode cX12_allPaid 38 = .ok (.iadd, 1) := by decide +kernel
theorem dX12_allPaid_39 : decode cX12_allPaid 39 = .ok (.ireturn, 1) := by decide +kernel
def m_allPaid_24 (N : Nat) (s0 : Int) (w : aw_W) : Option (Int × aw_W) :=
  aw_b2 (m_firsts N w) fun r1 w1 =>
    aw_b2 (j_Int_bitCount N r1 w1) fun r2 w2 =>
      some (aw_w (s0 + (aw_w ((w 56 3) * r2))), w2)
theorem w_m_allPaid_24 {l : Launch} {K : aw_K} (N d : Nat) (hd : 2 ≤ d) : ∀ (s0 : Int) (w : aw_W) (y : Int) (v : aw_W), m_allPaid_24 N s0 w = some (y, v) → aw_AW l K MX12_allPaid (d + 1) 24 [(0, .inr (.inr 49))] [.inl s0] w (some (.inl y), v) := by
  intro s0 w y v h
  unfold m_allPaid_24 at h
  refine aw_aload_n (pc := 24) (q := 0) dX12_allPaid_24 rfl ?_
  refine aw_getf (pc := 25) (v := .inr (.inr 56)) dX12_allPaid_25 fl_RX12_43 (by decide) rfl rfl rfl ?_
  refine aw_iconst (pc := 28) dX12_allPaid_28 ⟨by decide, by decide⟩ ?_
  refine aw_ialdv (pc := 29) (v := w 56 3) dX12_allPaid_29 rfl (by decide) (by decide) rfl ?_
  refine aw_aload_n (pc := 30) (q := 0) dX12_allPaid_30 rfl ?_
  obtain ⟨r1, w1, h1, h⟩ := aw_b2s h
  refine aw_callV (pc := 31) (as := []) (st := [.inl (w 56 3), .inl s0]) (st' := [.inl r1, .inl (w 56 3), .inl s0]) dX12_allPaid_31 cv_RX12_332 (by decide) rfl rfl rfl rfl (Nat.le_of_ble_eq_true rfl) (w_m_firsts N d (by omega) _ _ _ h1) rfl ?_
  obtain ⟨r2, w2, h2, h⟩ := aw_b2s h
  refine aw_callS (pc := 34) (as := [.inl r1]) (st := [.inl (w 56 3), .inl s0]) (st' := [.inl r2, .inl (w 56 3), .inl s0]) dX12_allPaid_34 cs_RX12_335 rfl rfl (Nat.le_of_ble_eq_true rfl) (w_j_Int_bitCount N d (by omega) _ _ _ _ h2) rfl ?_
  refine aw_imul (pc := 37) dX12_allPaid_37 ?_
  refine aw_iadd (pc := 38) dX12_allPaid_38 ?_
  cases h
  exact aw_iret (pc := 39) rfl dX12_allPaid_39
def m_allPaid (N : Nat) (w : aw_W) : Option (Int × aw_W) :=
  aw_b1 (m_judge N w) fun w1 =>
    aw_b2 (m_winner N w1) fun r2 w2 =>
      if r2 = (-1) then
        m_allPaid_24 N 0 w2
      else
        aw_b2 (m_winner N w2) fun r3 w3 =>
          aw_b2 (m_paidBy N r3 w3) fun r4 w4 =>
            m_allPaid_24 N r4 w4
theorem w_m_allPaid_d {l : Launch} {K : aw_K} (N d : Nat) (hd : 2 ≤ d) : ∀ (w : aw_W) (y : Int) (v : aw_W), m_allPaid N w = some (y, v) → aw_Met l K MX12_allPaid (d + 1) [.inr (.inr 49)] w (some (.inl y), v) := by
  intro w y v h
  unfold m_allPaid at h
  refine aw_enter rfl (Nat.le_of_ble_eq_true rfl) ?_
  show aw_AW l K MX12_allPaid (d + 1) 0 [(0, .inr (.inr 49))] [] w (some (.inl y), v)
  refine aw_aload_n (pc := 0) (q := 0) dX12_allPaid_0 rfl ?_
  obtain ⟨w1, h1, h⟩ := aw_b1s h
  refine aw_callV (pc := 1) (as := []) (st := []) (st' := []) dX12_allPaid_1 cv_RX12_326 (by decide) rfl rfl rfl rfl (Nat.le_of_ble_eq_true rfl) (w_m_judge N d (by omega) _ _ h1) rfl ?_
  refine aw_aload_n (pc := 4) (q := 0) dX12_allPaid_4 rfl ?_
  obtain ⟨r2, w2, h2, h⟩ := aw_b2s h
  refine aw_callV (pc := 5) (as := []) (st := []) (st' := [.inl r2]) dX12_allPaid_5 cv_RX12_320 (by decide) rfl rfl rfl rfl (Nat.le_of_ble_eq_true rfl) (w_m_winner N d (by omega) _ _ _ h2) rfl ?_
  refine aw_iconst (pc := 8) dX12_allPaid_8 ⟨by decide, by decide⟩ ?_
  refine aw_icmp_ne (pc := 9) (tgt := 16) dX12_allPaid_9 (by decide) (fun hc => ?_) (fun hc => ?_)
  · rw [if_neg hc] at h
    refine aw_aload_n (pc := 16) (q := 0) dX12_allPaid_16 rfl ?_
    refine aw_aload_n (pc := 17) (q := 0) dX12_allPaid_17 rfl ?_
    obtain ⟨r3, w3, h3, h⟩ := aw_b2s h
    refine aw_callV (pc := 18) (as := []) (st := [.inr (.inr 49)]) (st' := [.inl r3, .inr (.inr 49)]) dX12_allPaid_18 cv_RX12_320 (by decide) rfl rfl rfl rfl (Nat.le_of_ble_eq_true rfl) (w_m_winner N d (by omega) _ _ _ h3) rfl ?_
    obtain ⟨r4, w4, h4, h⟩ := aw_b2s h
    refine aw_callV (pc := 21) (as := [.inl r3]) (st := []) (st' := [.inl r4]) dX12_allPaid_21 cv_RX12_329 (by decide) rfl rfl rfl rfl (Nat.le_of_ble_eq_true rfl) (w_m_paidBy N d (by omega) _ _ _ _ h4) rfl ?_
    exact aw_sel [0] rfl (w_m_allPaid_24 N d hd  _ _ _ _ h)
  · rw [if_pos hc] at h
    refine aw_iconst (pc := 12) dX12_allPaid_12 ⟨by decide, by decide⟩ ?_
    refine aw_goto (pc := 13) (tgt := 24) dX12_allPaid_13 (by decide) ?_
    exact aw_sel [0] rfl (w_m_allPaid_24 N d hd  _ _ _ _ h)
theorem w_m_allPaid {l : Launch} {K : aw_K} (N d : Nat) (hd : 3 ≤ d) : ∀ (w : aw_W) (y : Int) (v : aw_W), m_allPaid N w = some (y, v) → aw_Met l K MX12_allPaid (d) [.inr (.inr 49)] w (some (.inl y), v) := by
  obtain ⟨e, rfl⟩ : ∃ e, d = e + 1 := ⟨d - 1, by omega⟩
  exact w_m_allPaid_d N e (by omega)
theorem dX12_bids_0 : decode cX12_bids 0 = .ok (.aload_n 0, 1) := by decide +kernel
theorem dX12_bids_1 : decode cX12_bids 1 = .ok (.iconst 0, 1) := by decide +kernel
theorem dX12_bids_2 : decode cX12_bids 2 = .ok (.putfield 99, 3) := by decide +kernel
theorem dX12_bids_5 : decode cX12_bids 5 = .ok (.aload_n 0, 1) := by decide +kernel
theorem dX12_bids_6 : decode cX12_bids 6 = .ok (.getfield 270, 3) := by decide +kernel
theorem dX12_bids_9 : decode cX12_bids 9 = .ok (.ifCond .eq 23, 3) := by decide +kernel
theorem dX12_bids_12 : decode cX12_bids 12 = .ok (.iload_n 2, 1) := by decide +kernel
theorem dX12_bids_13 : decode cX12_bids 13 = .ok (.i2l, 1) := by decide +kernel
theorem dX12_bids_14 : decode cX12_bids 14 = .ok (.lconst 0, 1) := by decide +kernel
theorem dX12_bids_15 : decode cX12_bids 15 = .ok (.ldc2_w 340, 3) := by decide +kernel
theorem dX12_bids_18 : decode cX12_bids 18 = .ok (.invokestatic 227, 3) := by decide +kernel
theorem dX12_bids_21 : decode cX12_bids 21 = .ok (.ifCond .eq 11, 3) := by decide +kernel
theorem dX12_bids_24 : decode cX12_bids 24 = .ok (.aload_n 0, 1) := by decide +kernel
theorem dX12_bids_25 : decode cX12_bids 25 = .ok (.iload_n 1, 1) := by decide +kernel
theorem dX12_bids_26 : decode cX12_bids 26 = .ok (.invokevirtual 342, 3) := by decide +kernel
theorem dX12_bids_29 : decode cX12_bids 29 = .ok (.ifCond .ne 7, 3) := by decide +kernel
theorem dX12_bids_32 : decode cX12_bids 32 = .ok (.ldc_w 315, 3) := by decide +kernel
theorem dX12_bids_35 : decode cX12_bids 35 = .ok (.ireturn, 1) := by decide +kernel
theorem dX12_bids_36 : decode cX12_bids 36 = .ok (.aload_n 0, 1) := by decide +kernel
theorem dX12_bids_37 : decode cX12_bids 37 = .ok (.invokevirtual 326, 3) := by decide +kernel
theorem dX12_bids_40 : decode cX12_bids 40 = .ok (.iload_n 2, 1) := by decide +kernel
theorem dX12_bids_41 : decode cX12_bids 41 = .ok (.ifCond .ne 10, 3) := by decide +kernel
theorem dX12_bids_44 : decode cX12_bids 44 = .ok (.aload_n 0, 1) := by decide +kernel
theorem dX12_bids_45 : decode cX12_bids 45 = .ok (.invokevirtual 320, 3) := by decide +kernel
theorem dX12_bids_48 : decode cX12_bids 48 = .ok (.goto 47, 3) := by decide +kernel
theorem dX12_bids_51 : decode cX12_bids 51 = .ok (.iload_n 2, 1) := by decide +kernel
theorem dX12_bids_52 : decode cX12_bids 52 = .ok (.iconst 1, 1) := by decide +kernel
theorem dX12_bids_53 : decode cX12_bids 53 = .ok (.if_icmp .ne 26, 3) := by decide +kernel
theorem dX12_bids_56 : decode cX12_bids 56 = .ok (.aload_n 0, 1) := by decide +kernel
theorem dX12_bids_57 : decode cX12_bids 57 = .ok (.invokevirtual 320, 3) := by decide +kernel
theorem dX12_bids_60 : decode cX12_bids 60 = .ok (.iconst (-1), 1) := by decide +kernel
theorem dX12_bids_61 : decode cX12_bids 61 = .ok (.if_icmp .ne 7, 3) := by decide +kernel
theorem dX12_bids_64 : decode cX12_bids 64 = .ok (.iconst 0, 1) := by decide +kernel
theorem dX12_bids_65 : decode cX12_bids 65 = .ok (.goto 30, 3) := by decide +kernel
theorem dX12_bids_68 : decode cX12_bids 68 = .ok (.aload_n 0, 1) := by decide +kernel
theorem dX12_bids_69 : decode cX12_bids 69 = .ok (.aload_n 0, 1) := by decide +kernel
theorem dX12_bids_70 : decode cX12_bids 70 = .ok (.invokevirtual 320, 3) := by decide +kernel
theorem dX12_bids_73 : decode cX12_bids 73 = .ok (.invokevirtual 329, 3) := by decide +kernel
theorem dX12_bids_76 : decode cX12_bids 76 = .ok (.goto 19, 3) := by decide +kernel
theorem dX12_bids_79 : decode cX12_bids 79 = .ok (.iload_n 2, 1) := by decide +kernel
theorem dX12_bids_80 : decode cX12_bids 80 = .ok (.iconst 2, 1) := by decide +kernel
theorem dX12_bids_81 : decode cX12_bids 81 = .ok (.if_icmp .ne 10, 3) := by decide +kernel
theorem dX12_bids_84 : decode cX12_bids 84 = .ok (.aload_n 0, 1) := by decide +kernel
theorem dX12_bids_85 : decode cX12_bids 85 = .ok (.invokevirtual 332, 3) := by decide +kernel
theorem dX12_bids_88 : decode cX12_bids 88 = .ok (.goto 7, 3) := by decide +kernel
theorem dX12_bids_91 : decode cX12_bids 91 = .ok (.aload_n 0, 1) := by decide +kernel
theorem dX12_bids_92 : decode cX12_bids 92 = .ok (.invokevirtual 345, 3) := by decide +kernel
theorem dX12_bids_95 : decode cX12_bids 95 = .ok (.ireturn, 1) := by decide +kernel
def m_bids_32 (N : Nat) (w : aw_W) : Option (Int × aw_W) :=
  some ((-1000000), w)
theorem w_m_bids_32 {l : Launch} {K : aw_K} (N d : Nat) (hd : 3 ≤ d) : ∀ (w : aw_W) (y : Int) (v : aw_W), m_bids_32 N w = some (y, v) → aw_AW l K MX12_bids (d + 1) 32 [] [] w (some (.inl y), v) := by
  intro w y v h
  unfold m_bids_32 at h
  refine aw_ldcw (pc := 32) (x := (-1000000)) dX12_bids_32 cn_RX12_315 ⟨by decide, by decide⟩ ?_
  cases h
  exact aw_iret (pc := 35) rfl dX12_bids_35
def m_bids_95 (N : Nat) (s0 : Int) (w : aw_W) : Option (Int × aw_W) :=
  some (s0, w)
theorem w_m_bids_95 {l : Launch} {K : aw_K} (N d : Nat) (hd : 3 ≤ d) : ∀ (s0 : Int) (w : aw_W) (y : Int) (v : aw_W), m_bids_95 N s0 w = some (y, v) → aw_AW l K MX12_bids (d + 1) 95 [] [.inl s0] w (some (.inl y), v) := by
  intro s0 w y v h
  unfold m_bids_95 at h
  cases h
  exact aw_iret (pc := 95) rfl dX12_bids_95
def m_bids (N : Nat) (x1 x2 : Int) (w : aw_W) : Option (Int × aw_W) :=
  if (w 49 22) = 0 then
    m_bids_32 N (aw_up w 49 0 0)
  else
    aw_b2 (m_isIn N x2 0 3 (aw_up w 49 0 0)) fun r1 w1 =>
      if r1 = 0 then
        m_bids_32 N w1
      else
        aw_b2 (m_lay N x1 w1) fun r2 w2 =>
          if r2 = 0 then
            m_bids_32 N w2
          else
            aw_b1 (m_judge N w2) fun w3 =>
              if x2 = 0 then
                aw_b2 (m_winner N w3) fun r9 w9 =>
                  m_bids_95 N r9 w9
              else
                if x2 = 1 then
                  aw_b2 (m_winner N w3) fun r6 w6 =>
                    if r6 = (-1) then
                      m_bids_95 N 0 w6
                    else
                      aw_b2 (m_winner N w6) fun r7 w7 =>
                        aw_b2 (m_paidBy N r7 w7) fun r8 w8 =>
                          m_bids_95 N r8 w8
                else
                  if x2 = 2 then
                    aw_b2 (m_firsts N w3) fun r5 w5 =>
                      m_bids_95 N r5 w5
                  else
                    aw_b2 (m_allPaid N w3) fun r4 w4 =>
                      m_bids_95 N r4 w4
theorem w_m_bids_d {l : Launch} {K : aw_K} (N d : Nat) (hd : 3 ≤ d) : ∀ (x1 x2 : Int) (w : aw_W) (y : Int) (v : aw_W), m_bids N x1 x2 w = some (y, v) → aw_Met l K MX12_bids (d + 1) [.inr (.inr 49), .inl x1, .inl x2] w (some (.inl y), v) := by
  intro x1 x2 w y v h
  unfold m_bids at h
  refine aw_enter rfl (Nat.le_of_ble_eq_true rfl) ?_
  show aw_AW l K MX12_bids (d + 1) 0 [(0, .inr (.inr 49)), (1, .inl x1), (2, .inl x2)] [] w (some (.inl y), v)
  refine aw_aload_n (pc := 0) (q := 0) dX12_bids_0 rfl ?_
  refine aw_iconst (pc := 1) dX12_bids_1 ⟨by decide, by decide⟩ ?_
  refine aw_puti (pc := 2) dX12_bids_2 fp_RX12_99 (by decide) rfl rfl ?_
  refine aw_aload_n (pc := 5) (q := 0) dX12_bids_5 rfl ?_
  refine aw_getf (pc := 6) (v := .inl (w 49 22)) dX12_bids_6 fl_RX12_270 (by decide) rfl rfl rfl ?_
  refine aw_if_eq (pc := 9) (tgt := 32) dX12_bids_9 (by decide) (fun hc => ?_) (fun hc => ?_)
  · rw [if_pos hc] at h
    exact aw_sel [] rfl (w_m_bids_32 N d hd  _ _ _ h)
  · rw [if_neg hc] at h
    refine aw_iload_n (pc := 12) (q := 2) dX12_bids_12 rfl ?_
    refine aw_i2l (pc := 13) dX12_bids_13 ?_
    refine aw_lconst (pc := 14) (x := 0) dX12_bids_14 (by decide) ⟨by decide, by decide⟩ ?_
    refine aw_ldc2 (pc := 15) (x := 3) dX12_bids_15 cl_RX12_340 ⟨by decide, by decide⟩ ?_
    obtain ⟨r1, w1, h1, h⟩ := aw_b2s h
    refine aw_callS (pc := 18) (as := [.inr (.inl x2), .inr (.inl 0), .inr (.inl 3)]) (st := []) (st' := [.inl r1]) dX12_bids_18 cs_RX12_227 rfl rfl (Nat.le_of_ble_eq_true rfl) (w_m_isIn N d (by omega) _ _ _ _ _ _ h1) rfl ?_
    refine aw_if_eq (pc := 21) (tgt := 32) dX12_bids_21 (by decide) (fun hc => ?_) (fun hc => ?_)
    · rw [if_pos hc] at h
      exact aw_sel [] rfl (w_m_bids_32 N d hd  _ _ _ h)
    · rw [if_neg hc] at h
      refine aw_aload_n (pc := 24) (q := 0) dX12_bids_24 rfl ?_
      refine aw_iload_n (pc := 25) (q := 1) dX12_bids_25 rfl ?_
      obtain ⟨r2, w2, h2, h⟩ := aw_b2s h
      refine aw_callV (pc := 26) (as := [.inl x1]) (st := []) (st' := [.inl r2]) dX12_bids_26 cv_RX12_342 (by decide) rfl rfl rfl rfl (Nat.le_of_ble_eq_true rfl) (w_m_lay N d (by omega) _ _ _ _ h2) rfl ?_
      refine aw_if_ne (pc := 29) (tgt := 36) dX12_bids_29 (by decide) (fun hc => ?_) (fun hc => ?_)
      · rw [if_neg hc] at h
        refine aw_aload_n (pc := 36) (q := 0) dX12_bids_36 rfl ?_
        obtain ⟨w3, h3, h⟩ := aw_b1s h
        refine aw_callV (pc := 37) (as := []) (st := []) (st' := []) dX12_bids_37 cv_RX12_326 (by decide) rfl rfl rfl rfl (Nat.le_of_ble_eq_true rfl) (w_m_judge N d (by omega) _ _ h3) rfl ?_
        refine aw_iload_n (pc := 40) (q := 2) dX12_bids_40 rfl ?_
        refine aw_if_ne (pc := 41) (tgt := 51) dX12_bids_41 (by decide) (fun hc => ?_) (fun hc => ?_)
        · rw [if_neg hc] at h
          refine aw_iload_n (pc := 51) (q := 2) dX12_bids_51 rfl ?_
          refine aw_iconst (pc := 52) dX12_bids_52 ⟨by decide, by decide⟩ ?_
          refine aw_icmp_ne (pc := 53) (tgt := 79) dX12_bids_53 (by decide) (fun hc => ?_) (fun hc => ?_)
          · rw [if_neg hc] at h
            refine aw_iload_n (pc := 79) (q := 2) dX12_bids_79 rfl ?_
            refine aw_iconst (pc := 80) dX12_bids_80 ⟨by decide, by decide⟩ ?_
            refine aw_icmp_ne (pc := 81) (tgt := 91) dX12_bids_81 (by decide) (fun hc => ?_) (fun hc => ?_)
            · rw [if_neg hc] at h
              refine aw_aload_n (pc := 91) (q := 0) dX12_bids_91 rfl ?_
              obtain ⟨r4, w4, h4, h⟩ := aw_b2s h
              refine aw_callV (pc := 92) (as := []) (st := []) (st' := [.inl r4]) dX12_bids_92 cv_RX12_345 (by decide) rfl rfl rfl rfl (Nat.le_of_ble_eq_true rfl) (w_m_allPaid N d (by omega) _ _ _ h4) rfl ?_
              exact aw_sel [] rfl (w_m_bids_95 N d hd  _ _ _ _ h)
            · rw [if_pos hc] at h
              refine aw_aload_n (pc := 84) (q := 0) dX12_bids_84 rfl ?_
              obtain ⟨r5, w5, h5, h⟩ := aw_b2s h
              refine aw_callV (pc := 85) (as := []) (st := []) (st' := [.inl r5]) dX12_bids_85 cv_RX12_332 (by decide) rfl rfl rfl rfl (Nat.le_of_ble_eq_true rfl) (w_m_firsts N d (by omega) _ _ _ h5) rfl ?_
              refine aw_goto (pc := 88) (tgt := 95) dX12_bids_88 (by decide) ?_
              exact aw_sel [] rfl (w_m_bids_95 N d hd  _ _ _ _ h)
          · rw [if_pos hc] at h
            refine aw_aload_n (pc := 56) (q := 0) dX12_bids_56 rfl ?_
            obtain ⟨r6, w6, h6, h⟩ := aw_b2s h
            refine aw_callV (pc := 57) (as := []) (st := []) (st' := [.inl r6]) dX12_bids_57 cv_RX12_320 (by decide) rfl rfl rfl rfl (Nat.le_of_ble_eq_true rfl) (w_m_winner N d (by omega) _ _ _ h6) rfl ?_
            refine aw_iconst (pc := 60) dX12_bids_60 ⟨by decide, by decide⟩ ?_
            refine aw_icmp_ne (pc := 61) (tgt := 68) dX12_bids_61 (by decide) (fun hc => ?_) (fun hc => ?_)
            · rw [if_neg hc] at h
              refine aw_aload_n (pc := 68) (q := 0) dX12_bids_68 rfl ?_
              refine aw_aload_n (pc := 69) (q := 0) dX12_bids_69 rfl ?_
              obtain ⟨r7, w7, h7, h⟩ := aw_b2s h
              refine aw_callV (pc := 70) (as := []) (st := [.inr (.inr 49)]) (st' := [.inl r7, .inr (.inr 49)]) dX12_bids_70 cv_RX12_320 (by decide) rfl rfl rfl rfl (Nat.le_of_ble_eq_true rfl) (w_m_winner N d (by omega) _ _ _ h7) rfl ?_
              obtain ⟨r8, w8, h8, h⟩ := aw_b2s h
              refine aw_callV (pc := 73) (as := [.inl r7]) (st := []) (st' := [.inl r8]) dX12_bids_73 cv_RX12_329 (by decide) rfl rfl rfl rfl (Nat.le_of_ble_eq_true rfl) (w_m_paidBy N d (by omega) _ _ _ _ h8) rfl ?_
              refine aw_goto (pc := 76) (tgt := 95) dX12_bids_76 (by decide) ?_
              exact aw_sel [] rfl (w_m_bids_95 N d hd  _ _ _ _ h)
            · rw [if_pos hc] at h
              refine aw_iconst (pc := 64) dX12_bids_64 ⟨by decide, by decide⟩ ?_
              refine aw_goto (pc := 65) (tgt := 95) dX12_bids_65 (by decide) ?_
              exact aw_sel [] rfl (w_m_bids_95 N d hd  _ _ _ _ h)
        · rw [if_pos hc] at h
          refine aw_aload_n (pc := 44) (q := 0) dX12_bids_44 rfl ?_
          obtain ⟨r9, w9, h9, h⟩ := aw_b2s h
          refine aw_callV (pc := 45) (as := []) (st := []) (st' := [.inl r9]) dX12_bids_45 cv_RX12_320 (by decide) rfl rfl rfl rfl (Nat.le_of_ble_eq_true rfl) (w_m_winner N d (by omega) _ _ _ h9) rfl ?_
          refine aw_goto (pc := 48) (tgt := 95) dX12_bids_48 (by decide) ?_
          exact aw_sel [] rfl (w_m_bids_95 N d hd  _ _ _ _ h)
      · rw [if_pos hc] at h
        exact aw_sel [] rfl (w_m_bids_32 N d hd  _ _ _ h)
theorem w_m_bids {l : Launch} {K : aw_K} (N d : Nat) (hd : 4 ≤ d) : ∀ (x1 x2 : Int) (w : aw_W) (y : Int) (v : aw_W), m_bids N x1 x2 w = some (y, v) → aw_Met l K MX12_bids (d) [.inr (.inr 49), .inl x1, .inl x2] w (some (.inl y), v) := by
  obtain ⟨e, rfl⟩ : ∃ e, d = e + 1 := ⟨d - 1, by omega⟩
  exact w_m_bids_d N e (by omega)
theorem dX12_areFew_0 : decode cX12_areFew 0 = .ok (.aload_n 0, 1) := by decide +kernel
theorem dX12_areFew_1 : decode cX12_areFew 1 = .ok (.getfield 270, 3) := by decide +kernel
theorem dX12_areFew_4 : decode cX12_areFew 4 = .ok (.ifCond .le 15, 3) := by decide +kernel
theorem dX12_areFew_7 : decode cX12_areFew 7 = .ok (.aload_n 0, 1) := by decide +kernel
theorem dX12_areFew_8 : decode cX12_areFew 8 = .ok (.getfield 270, 3) := by decide +kernel
theorem dX12_areFew_11 : decode cX12_areFew 11 = .ok (.iconst 4, 1) := by decide +kernel
theorem dX12_areFew_12 : decode cX12_areFew 12 = .ok (.if_icmp .gt 7, 3) := by decide +kernel
theorem dX12_areFew_15 : decode cX12_areFew 15 = .ok (.iconst 1, 1) := by decide +kernel
theorem dX12_areFew_16 : decode cX12_areFew 16 = .ok (.goto 4, 3) := by decide +kernel
theorem dX12_areFew_19 : decode cX12_areFew 19 = .ok (.iconst 0, 1) := by decide +kernel
theorem dX12_areFew_20 : decode cX12_areFew 20 = .ok (.ireturn, 1) := by decide +kernel
def m_areFew_20 (N : Nat) (s0 : Int) (w : aw_W) : Option (Int × aw_W) :=
  if s0 = 0 ∨ s0 = 1 then
    some (s0, w)
  else none
theorem w_m_areFew_20 {l : Launch} {K : aw_K} (N d : Nat) : ∀ (s0 : Int) (w : aw_W) (y : Int) (v : aw_W), m_areFew_20 N s0 w = some (y, v) → aw_AW l K MX12_areFew (d) 20 [] [.inl s0] w (some (.inl y), v) := by
  intro s0 w y v h
  unfold m_areFew_20 at h
  obtain ⟨hz, h⟩ := aw_cks h
  cases h
  exact aw_zret (pc := 20) rfl hz dX12_areFew_20
def m_areFew_19 (N : Nat) (w : aw_W) : Option (Int × aw_W) :=
  m_areFew_20 N 0 w
theorem w_m_areFew_19 {l : Launch} {K : aw_K} (N d : Nat) : ∀ (w : aw_W) (y : Int) (v : aw_W), m_areFew_19 N w = some (y, v) → aw_AW l K MX12_areFew (d) 19 [] [] w (some (.inl y), v) := by
  intro w y v h
  unfold m_areFew_19 at h
  refine aw_iconst (pc := 19) dX12_areFew_19 ⟨by decide, by decide⟩ ?_
  exact aw_sel [] rfl (w_m_areFew_20 N d  _ _ _ _ h)
def m_areFew (N : Nat) (w : aw_W) : Option (Int × aw_W) :=
  if (w 49 22) ≤ 0 then
    m_areFew_19 N w
  else
    if 4 < (w 49 22) then
      m_areFew_19 N w
    else
      m_areFew_20 N 1 w
theorem w_m_areFew {l : Launch} {K : aw_K} (N d : Nat) (hd : 0 ≤ d) : ∀ (w : aw_W) (y : Int) (v : aw_W), m_areFew N w = some (y, v) → aw_Met l K MX12_areFew (d) [.inr (.inr 49)] w (some (.inl y), v) := by
  intro w y v h
  unfold m_areFew at h
  refine aw_enter rfl (Nat.le_of_ble_eq_true rfl) ?_
  show aw_AW l K MX12_areFew (d) 0 [(0, .inr (.inr 49))] [] w (some (.inl y), v)
  refine aw_aload_n (pc := 0) (q := 0) dX12_areFew_0 rfl ?_
  refine aw_getf (pc := 1) (v := .inl (w 49 22)) dX12_areFew_1 fl_RX12_270 (by decide) rfl rfl rfl ?_
  refine aw_if_le (pc := 4) (tgt := 19) dX12_areFew_4 (by decide) (fun hc => ?_) (fun hc => ?_)
  · rw [if_pos hc] at h
    exact aw_sel [] rfl (w_m_areFew_19 N d  _ _ _ h)
  · rw [if_neg hc] at h
    refine aw_aload_n (pc := 7) (q := 0) dX12_areFew_7 rfl ?_
    refine aw_getf (pc := 8) (v := .inl (w 49 22)) dX12_areFew_8 fl_RX12_270 (by decide) rfl rfl rfl ?_
    refine aw_iconst (pc := 11) dX12_areFew_11 ⟨by decide, by decide⟩ ?_
    refine aw_icmp_gt (pc := 12) (tgt := 19) dX12_areFew_12 (by decide) (fun hc => ?_) (fun hc => ?_)
    · rw [if_pos hc] at h
      exact aw_sel [] rfl (w_m_areFew_19 N d  _ _ _ h)
    · rw [if_neg hc] at h
      refine aw_iconst (pc := 15) dX12_areFew_15 ⟨by decide, by decide⟩ ?_
      refine aw_goto (pc := 16) (tgt := 20) dX12_areFew_16 (by decide) ?_
      exact aw_sel [] rfl (w_m_areFew_20 N d  _ _ _ _ h)
theorem dX12_isStriver_0 : decode cX12_isStriver 0 = .ok (.iload_n 1, 1) := by decide +kernel
theorem dX12_isStriver_1 : decode cX12_isStriver 1 = .ok (.ifCond .lt 15, 3) := by decide +kernel
theorem dX12_isStriver_4 : decode cX12_isStriver 4 = .ok (.iload_n 1, 1) := by decide +kernel
theorem dX12_isStriver_5 : decode cX12_isStriver 5 = .ok (.aload_n 0, 1) := by decide +kernel
theorem dX12_isStriver_6 : decode cX12_isStriver 6 = .ok (.getfield 270, 3) := by decide +kernel
theorem dX12_isStriver_9 : decode cX12_isStriver 9 = .ok (.if_icmp .ge 7, 3) := by decide +kernel
theorem dX12_isStriver_12 : decode cX12_isStriver 12 = .ok (.iconst 1, 1) := by decide +kernel
theorem dX12_isStriver_13 : decode cX12_isStriver 13 = .ok (.goto 4, 3) := by decide +kernel
theorem dX12_isStriver_16 : decode cX12_isStriver 16 = .ok (.iconst 0, 1) := by decide +kernel
theorem dX12_isStriver_17 : decode cX12_isStriver 17 = .ok (.ireturn, 1) := by decide +kernel
def m_isStriver_17 (N : Nat) (s0 : Int) (w : aw_W) : Option (Int × aw_W) :=
  if s0 = 0 ∨ s0 = 1 then
    some (s0, w)
  else none
theorem w_m_isStriver_17 {l : Launch} {K : aw_K} (N d : Nat) : ∀ (s0 : Int) (w : aw_W) (y : Int) (v : aw_W), m_isStriver_17 N s0 w = some (y, v) → aw_AW l K MX12_isStriver (d) 17 [] [.inl s0] w (some (.inl y), v) := by
  intro s0 w y v h
  unfold m_isStriver_17 at h
  obtain ⟨hz, h⟩ := aw_cks h
  cases h
  exact aw_zret (pc := 17) rfl hz dX12_isStriver_17
def m_isStriver_16 (N : Nat) (w : aw_W) : Option (Int × aw_W) :=
  m_isStriver_17 N 0 w
theorem w_m_isStriver_16 {l : Launch} {K : aw_K} (N d : Nat) : ∀ (w : aw_W) (y : Int) (v : aw_W), m_isStriver_16 N w = some (y, v) → aw_AW l K MX12_isStriver (d) 16 [] [] w (some (.inl y), v) := by
  intro w y v h
  unfold m_isStriver_16 at h
  refine aw_iconst (pc := 16) dX12_isStriver_16 ⟨by decide, by decide⟩ ?_
  exact aw_sel [] rfl (w_m_isStriver_17 N d  _ _ _ _ h)
def m_isStriver (N : Nat) (x1 : Int) (w : aw_W) : Option (Int × aw_W) :=
  if x1 < 0 then
    m_isStriver_16 N w
  else
    if (w 49 22) ≤ x1 then
      m_isStriver_16 N w
    else
      m_isStriver_17 N 1 w
theorem w_m_isStriver {l : Launch} {K : aw_K} (N d : Nat) (hd : 0 ≤ d) : ∀ (x1 : Int) (w : aw_W) (y : Int) (v : aw_W), m_isStriver N x1 w = some (y, v) → aw_Met l K MX12_isStriver (d) [.inr (.inr 49), .inl x1] w (some (.inl y), v) := by
  intro x1 w y v h
  unfold m_isStriver at h
  refine aw_enter rfl (Nat.le_of_ble_eq_true rfl) ?_
  show aw_AW l K MX12_isStriver (d) 0 [(0, .inr (.inr 49)), (1, .inl x1)] [] w (some (.inl y), v)
  refine aw_iload_n (pc := 0) (q := 1) dX12_isStriver_0 rfl ?_
  refine aw_if_lt (pc := 1) (tgt := 16) dX12_isStriver_1 (by decide) (fun hc => ?_) (fun hc => ?_)
  · rw [if_pos hc] at h
    exact aw_sel [] rfl (w_m_isStriver_16 N d  _ _ _ h)
  · rw [if_neg hc] at h
    refine aw_iload_n (pc := 4) (q := 1) dX12_isStriver_4 rfl ?_
    refine aw_aload_n (pc := 5) (q := 0) dX12_isStriver_5 rfl ?_
    refine aw_getf (pc := 6) (v := .inl (w 49 22)) dX12_isStriver_6 fl_RX12_270 (by decide) rfl rfl rfl ?_
    refine aw_icmp_ge (pc := 9) (tgt := 16) dX12_isStriver_9 (by decide) (fun hc => ?_) (fun hc => ?_)
    · rw [if_pos hc] at h
      exact aw_sel [] rfl (w_m_isStriver_16 N d  _ _ _ h)
    · rw [if_neg hc] at h
      refine aw_iconst (pc := 12) dX12_isStriver_12 ⟨by decide, by decide⟩ ?_
      refine aw_goto (pc := 13) (tgt := 17) dX12_isStriver_13 (by decide) ?_
      exact aw_sel [] rfl (w_m_isStriver_17 N d  _ _ _ _ h)
theorem dX12_has_0 : decode cX12_has 0 = .ok (.iload_n 0, 1) := by decide +kernel
theorem dX12_has_1 : decode cX12_has 1 = .ok (.iload_n 1, 1) := by decide +kernel
theorem dX12_has_2 : decode cX12_has 2 = .ok (.ishr, 1) := by decide +kernel
theorem dX12_has_3 : decode cX12_has 3 = .ok (.iconst 1, 1) := by decide +kernel
theorem dX12_has_4 : decode cX12_has 4 = .ok (.iand, 1) := by decide +kernel
theorem dX12_has_5 : decode cX12_has 5 = .ok (.iconst 1, 1) := by decide +kernel
theorem dX12_has_6 : decode cX12_has 6 = .ok (.if_icmp .ne 7, 3) := by decide +kernel
theorem dX12_has_9 : decode cX12_has 9 = .ok (.iconst 1, 1) := by decide +kernel
theorem dX12_has_10 : decode cX12_has 10 = .ok (.goto 4, 3) := by decide +kernel
theorem dX12_has_13 : decode cX12_has 13 = .ok (.iconst 0, 1) := by decide +kernel
theorem dX12_has_14 : decode cX12_has 14 = .ok (.ireturn, 1) := by decide +kernel
def m_has_14 (N : Nat) (s0 : Int) (w : aw_W) : Option (Int × aw_W) :=
  if s0 = 0 ∨ s0 = 1 then
    some (s0, w)
  else none
theorem w_m_has_14 {l : Launch} {K : aw_K} (N d : Nat) : ∀ (s0 : Int) (w : aw_W) (y : Int) (v : aw_W), m_has_14 N s0 w = some (y, v) → aw_AW l K MX12_has (d) 14 [] [.inl s0] w (some (.inl y), v) := by
  intro s0 w y v h
  unfold m_has_14 at h
  obtain ⟨hz, h⟩ := aw_cks h
  cases h
  exact aw_zret (pc := 14) rfl hz dX12_has_14
def m_has (N : Nat) (x0 x1 : Int) (w : aw_W) : Option (Int × aw_W) :=
  if (aw_and (aw_shr x0 x1) 1) = 1 then
    m_has_14 N 1 w
  else
    m_has_14 N 0 w
theorem w_m_has {l : Launch} {K : aw_K} (N d : Nat) (hd : 0 ≤ d) : ∀ (x0 x1 : Int) (w : aw_W) (y : Int) (v : aw_W), m_has N x0 x1 w = some (y, v) → aw_Met l K MX12_has (d) [.inl x0, .inl x1] w (some (.inl y), v) := by
  intro x0 x1 w y v h
  unfold m_has at h
  refine aw_enter rfl (Nat.le_of_ble_eq_true rfl) ?_
  show aw_AW l K MX12_has (d) 0 [(0, .inl x0), (1, .inl x1)] [] w (some (.inl y), v)
  refine aw_iload_n (pc := 0) (q := 0) dX12_has_0 rfl ?_
  refine aw_iload_n (pc := 1) (q := 1) dX12_has_1 rfl ?_
  refine aw_ishr (pc := 2) dX12_has_2 ?_
  refine aw_iconst (pc := 3) dX12_has_3 ⟨by decide, by decide⟩ ?_
  refine aw_iand (pc := 4) dX12_has_4 ?_
  refine aw_iconst (pc := 5) dX12_has_5 ⟨by decide, by decide⟩ ?_
  refine aw_icmp_ne (pc := 6) (tgt := 13) dX12_has_6 (by decide) (fun hc => ?_) (fun hc => ?_)
  · rw [if_neg hc] at h
    refine aw_iconst (pc := 13) dX12_has_13 ⟨by decide, by decide⟩ ?_
    exact aw_sel [] rfl (w_m_has_14 N d  _ _ _ _ h)
  · rw [if_pos hc] at h
    refine aw_iconst (pc := 9) dX12_has_9 ⟨by decide, by decide⟩ ?_
    refine aw_goto (pc := 10) (tgt := 14) dX12_has_10 (by decide) ?_
    exact aw_sel [] rfl (w_m_has_14 N d  _ _ _ _ h)
theorem dX12_gainOf_0 : decode cX12_gainOf 0 = .ok (.aload_n 0, 1) := by decide +kernel
theorem dX12_gainOf_1 : decode cX12_gainOf 1 = .ok (.invokevirtual 326, 3) := by decide +kernel
theorem dX12_gainOf_4 : decode cX12_gainOf 4 = .ok (.aload_n 0, 1) := by decide +kernel
theorem dX12_gainOf_5 : decode cX12_gainOf 5 = .ok (.invokevirtual 320, 3) := by decide +kernel
theorem dX12_gainOf_8 : decode cX12_gainOf 8 = .ok (.iload_n 1, 1) := by decide +kernel
theorem dX12_gainOf_9 : decode cX12_gainOf 9 = .ok (.if_icmp .ne 22, 3) := by decide +kernel
theorem dX12_gainOf_12 : decode cX12_gainOf 12 = .ok (.aload_n 0, 1) := by decide +kernel
theorem dX12_gainOf_13 : decode cX12_gainOf 13 = .ok (.getfield 37, 3) := by decide +kernel
theorem dX12_gainOf_16 : decode cX12_gainOf 16 = .ok (.iconst 4, 1) := by decide +kernel
theorem dX12_gainOf_17 : decode cX12_gainOf 17 = .ok (.iload_n 1, 1) := by decide +kernel
theorem dX12_gainOf_18 : decode cX12_gainOf 18 = .ok (.imul, 1) := by decide +kernel
theorem dX12_gainOf_19 : decode cX12_gainOf 19 = .ok (.iconst 1, 1) := by decide +kernel
theorem dX12_gainOf_20 : decode cX12_gainOf 20 = .ok (.iadd, 1) := by decide +kernel
theorem dX12_gainOf_21 : decode cX12_gainOf 21 = .ok (.iaload, 1) := by decide +kernel
theorem dX12_gainOf_22 : decode cX12_gainOf 22 = .ok (.aload_n 0, 1) := by decide +kernel
theorem dX12_gainOf_23 : decode cX12_gainOf 23 = .ok (.iload_n 1, 1) := by decide +kernel
theorem dX12_gainOf_24 : decode cX12_gainOf 24 = .ok (.invokevirtual 329, 3) := by decide +kernel
theorem dX12_gainOf_27 : decode cX12_gainOf 27 = .ok (.isub, 1) := by decide +kernel
theorem dX12_gainOf_28 : decode cX12_gainOf 28 = .ok (.goto 4, 3) := by decide +kernel
theorem dX12_gainOf_31 : decode cX12_gainOf 31 = .ok (.iconst 0, 1) := by decide +kernel
theorem dX12_gainOf_32 : decode cX12_gainOf 32 = .ok (.aload_n 0, 1) := by decide +kernel
theorem dX12_gainOf_33 : decode cX12_gainOf 33 = .ok (.invokevirtual 332, 3) := by decide +kernel
theorem dX12_gainOf_36 : decode cX12_gainOf 36 = .ok (.iload_n 1, 1) := by decide +kernel
theorem dX12_gainOf_37 : decode cX12_gainOf 37 = .ok (.invokestatic 248, 3) := by decide +kernel
theorem dX12_gainOf_40 : decode cX12_gainOf 40 = .ok (.ifCond .eq 12, 3) := by decide +kernel
theorem dX12_gainOf_43 : decode cX12_gainOf 43 = .ok (.aload_n 0, 1) := by decide +kernel
theorem dX12_gainOf_44 : decode cX12_gainOf 44 = .ok (.getfield 43, 3) := by decide +kernel
theorem dX12_gainOf_47 : decode cX12_gainOf 47 = .ok (.iconst 3, 1) := by decide +kernel
theorem dX12_gainOf_48 : decode cX12_gainOf 48 = .ok (.iaload, 1) := by decide +kernel
theorem dX12_gainOf_49 : decode cX12_gainOf 49 = .ok (.goto 4, 3) := by decide +kernel
theorem dX12_gainOf_52 : decode cX12_gainOf 52 = .ok (.iconst 0, 1) := by decide +kernel
theorem dX12_gainOf_53 : decode cX12_gainOf 53 = .ok (.isub, 1) := by decide +kernel
theorem dX12_gainOf_54 : decode cX12_gainOf 54 = .ok (.ireturn, 1) := by decide +kernel
def m_gainOf_53 (N : Nat) (s0 s1 : Int) (w : aw_W) : Option (Int × aw_W) :=
  some (aw_w (s1 - s0), w)
theorem w_m_gainOf_53 {l : Launch} {K : aw_K} (N d : Nat) (hd : 2 ≤ d) : ∀ (s0 s1 : Int) (w : aw_W) (y : Int) (v : aw_W), m_gainOf_53 N s0 s1 w = some (y, v) → aw_AW l K MX12_gainOf (d + 1) 53 [] [.inl s0, .inl s1] w (some (.inl y), v) := by
  intro s0 s1 w y v h
  unfold m_gainOf_53 at h
  refine aw_isub (pc := 53) dX12_gainOf_53 ?_
  cases h
  exact aw_iret (pc := 54) rfl dX12_gainOf_54
def m_gainOf_32 (N : Nat) (x1 s0 : Int) (w : aw_W) : Option (Int × aw_W) :=
  aw_b2 (m_firsts N w) fun r1 w1 =>
    aw_b2 (m_has N r1 x1 w1) fun r2 w2 =>
      if r2 = 0 then
        m_gainOf_53 N 0 s0 w2
      else
        m_gainOf_53 N (w2 56 3) s0 w2
theorem w_m_gainOf_32 {l : Launch} {K : aw_K} (N d : Nat) (hd : 2 ≤ d) : ∀ (x1 s0 : Int) (w : aw_W) (y : Int) (v : aw_W), m_gainOf_32 N x1 s0 w = some (y, v) → aw_AW l K MX12_gainOf (d + 1) 32 [(0, .inr (.inr 49)), (1, .inl x1)] [.inl s0] w (some (.inl y), v) := by
  intro x1 s0 w y v h
  unfold m_gainOf_32 at h
  refine aw_aload_n (pc := 32) (q := 0) dX12_gainOf_32 rfl ?_
  obtain ⟨r1, w1, h1, h⟩ := aw_b2s h
  refine aw_callV (pc := 33) (as := []) (st := [.inl s0]) (st' := [.inl r1, .inl s0]) dX12_gainOf_33 cv_RX12_332 (by decide) rfl rfl rfl rfl (Nat.le_of_ble_eq_true rfl) (w_m_firsts N d (by omega) _ _ _ h1) rfl ?_
  refine aw_iload_n (pc := 36) (q := 1) dX12_gainOf_36 rfl ?_
  obtain ⟨r2, w2, h2, h⟩ := aw_b2s h
  refine aw_callS (pc := 37) (as := [.inl r1, .inl x1]) (st := [.inl s0]) (st' := [.inl r2, .inl s0]) dX12_gainOf_37 cs_RX12_248 rfl rfl (Nat.le_of_ble_eq_true rfl) (w_m_has N d (by omega) _ _ _ _ _ h2) rfl ?_
  refine aw_if_eq (pc := 40) (tgt := 52) dX12_gainOf_40 (by decide) (fun hc => ?_) (fun hc => ?_)
  · rw [if_pos hc] at h
    refine aw_iconst (pc := 52) dX12_gainOf_52 ⟨by decide, by decide⟩ ?_
    exact aw_sel [] rfl (w_m_gainOf_53 N d hd  _ _ _ _ _ h)
  · rw [if_neg hc] at h
    refine aw_aload_n (pc := 43) (q := 0) dX12_gainOf_43 rfl ?_
    refine aw_getf (pc := 44) (v := .inr (.inr 56)) dX12_gainOf_44 fl_RX12_43 (by decide) rfl rfl rfl ?_
    refine aw_iconst (pc := 47) dX12_gainOf_47 ⟨by decide, by decide⟩ ?_
    refine aw_ialdv (pc := 48) (v := w2 56 3) dX12_gainOf_48 rfl (by decide) (by decide) rfl ?_
    refine aw_goto (pc := 49) (tgt := 53) dX12_gainOf_49 (by decide) ?_
    exact aw_sel [] rfl (w_m_gainOf_53 N d hd  _ _ _ _ _ h)
def m_gainOf (N : Nat) (x1 : Int) (w : aw_W) : Option (Int × aw_W) :=
  aw_b1 (m_judge N w) fun w1 =>
    aw_b2 (m_winner N w1) fun r2 w2 =>
      if r2 = x1 then
        if 0 ≤ (aw_w ((aw_w (4 * x1)) + 1)) ∧ (aw_w ((aw_w (4 * x1)) + 1)) < 24 then
          aw_b2 (m_paidBy N x1 w2) fun r3 w3 =>
            m_gainOf_32 N x1 (aw_w ((w2 54 ((aw_w ((aw_w (4 * x1)) + 1)).toNat)) - r3)) w3
        else none
      else
        m_gainOf_32 N x1 0 w2
theorem w_m_gainOf_d {l : Launch} {K : aw_K} (N d : Nat) (hd : 2 ≤ d) : ∀ (x1 : Int) (w : aw_W) (y : Int) (v : aw_W), m_gainOf N x1 w = some (y, v) → aw_Met l K MX12_gainOf (d + 1) [.inr (.inr 49), .inl x1] w (some (.inl y), v) := by
  intro x1 w y v h
  unfold m_gainOf at h
  refine aw_enter rfl (Nat.le_of_ble_eq_true rfl) ?_
  show aw_AW l K MX12_gainOf (d + 1) 0 [(0, .inr (.inr 49)), (1, .inl x1)] [] w (some (.inl y), v)
  refine aw_aload_n (pc := 0) (q := 0) dX12_gainOf_0 rfl ?_
  obtain ⟨w1, h1, h⟩ := aw_b1s h
  refine aw_callV (pc := 1) (as := []) (st := []) (st' := []) dX12_gainOf_1 cv_RX12_326 (by decide) rfl rfl rfl rfl (Nat.le_of_ble_eq_true rfl) (w_m_judge N d (by omega) _ _ h1) rfl ?_
  refine aw_aload_n (pc := 4) (q := 0) dX12_gainOf_4 rfl ?_
  obtain ⟨r2, w2, h2, h⟩ := aw_b2s h
  refine aw_callV (pc := 5) (as := []) (st := []) (st' := [.inl r2]) dX12_gainOf_5 cv_RX12_320 (by decide) rfl rfl rfl rfl (Nat.le_of_ble_eq_true rfl) (w_m_winner N d (by omega) _ _ _ h2) rfl ?_
  refine aw_iload_n (pc := 8) (q := 1) dX12_gainOf_8 rfl ?_
  refine aw_icmp_ne (pc := 9) (tgt := 31) dX12_gainOf_9 (by decide) (fun hc => ?_) (fun hc => ?_)
  · rw [if_neg hc] at h
    refine aw_iconst (pc := 31) dX12_gainOf_31 ⟨by decide, by decide⟩ ?_
    exact aw_sel [0, 1] rfl (w_m_gainOf_32 N d hd  _ _ _ _ _ h)
  · rw [if_pos hc] at h
    refine aw_aload_n (pc := 12) (q := 0) dX12_gainOf_12 rfl ?_
    refine aw_getf (pc := 13) (v := .inr (.inr 54)) dX12_gainOf_13 fl_RX12_37 (by decide) rfl rfl rfl ?_
    refine aw_iconst (pc := 16) dX12_gainOf_16 ⟨by decide, by decide⟩ ?_
    refine aw_iload_n (pc := 17) (q := 1) dX12_gainOf_17 rfl ?_
    refine aw_imul (pc := 18) dX12_gainOf_18 ?_
    refine aw_iconst (pc := 19) dX12_gainOf_19 ⟨by decide, by decide⟩ ?_
    refine aw_iadd (pc := 20) dX12_gainOf_20 ?_
    obtain ⟨hb, h⟩ := aw_cks h
    refine aw_ialdv (pc := 21) (v := w2 54 ((aw_w ((aw_w (4 * x1)) + 1)).toNat)) dX12_gainOf_21 rfl hb.1 hb.2 rfl ?_
    refine aw_aload_n (pc := 22) (q := 0) dX12_gainOf_22 rfl ?_
    refine aw_iload_n (pc := 23) (q := 1) dX12_gainOf_23 rfl ?_
    obtain ⟨r3, w3, h3, h⟩ := aw_b2s h
    refine aw_callV (pc := 24) (as := [.inl x1]) (st := [.inl (w2 54 ((aw_w ((aw_w (4 * x1)) + 1)).toNat))]) (st' := [.inl r3, .inl (w2 54 ((aw_w ((aw_w (4 * x1)) + 1)).toNat))]) dX12_gainOf_24 cv_RX12_329 (by decide) rfl rfl rfl rfl (Nat.le_of_ble_eq_true rfl) (w_m_paidBy N d (by omega) _ _ _ _ h3) rfl ?_
    refine aw_isub (pc := 27) dX12_gainOf_27 ?_
    refine aw_goto (pc := 28) (tgt := 32) dX12_gainOf_28 (by decide) ?_
    exact aw_sel [0, 1] rfl (w_m_gainOf_32 N d hd  _ _ _ _ _ h)
theorem w_m_gainOf {l : Launch} {K : aw_K} (N d : Nat) (hd : 3 ≤ d) : ∀ (x1 : Int) (w : aw_W) (y : Int) (v : aw_W), m_gainOf N x1 w = some (y, v) → aw_Met l K MX12_gainOf (d) [.inr (.inr 49), .inl x1] w (some (.inl y), v) := by
  obtain ⟨e, rfl⟩ : ∃ e, d = e + 1 := ⟨d - 1, by omega⟩
  exact w_m_gainOf_d N e (by omega)
theorem dX12_goHope_0 : decode cX12_goHope 0 = .ok (.iload_n 1, 1) := by decide +kernel
theorem dX12_goHope_1 : decode cX12_goHope 1 = .ok (.aload_n 0, 1) := by decide +kernel
theorem dX12_goHope_2 : decode cX12_goHope 2 = .ok (.getfield 270, 3) := by decide +kernel
theorem dX12_goHope_5 : decode cX12_goHope 5 = .ok (.if_icmp .ne 44, 3) := by decide +kernel
theorem dX12_goHope_8 : decode cX12_goHope 8 = .ok (.aload_n 0, 1) := by decide +kernel
theorem dX12_goHope_9 : decode cX12_goHope 9 = .ok (.invokevirtual 326, 3) := by decide +kernel
theorem dX12_goHope_12 : decode cX12_goHope 12 = .ok (.aload_n 0, 1) := by decide +kernel
theorem dX12_goHope_13 : decode cX12_goHope 13 = .ok (.dup, 1) := by decide +kernel
theorem dX12_goHope_14 : decode cX12_goHope 14 = .ok (.getfield 427, 3) := by decide +kernel
theorem dX12_goHope_17 : decode cX12_goHope 17 = .ok (.aload_n 0, 1) := by decide +kernel
theorem dX12_goHope_18 : decode cX12_goHope 18 = .ok (.invokevirtual 320, 3) := by decide +kernel
theorem dX12_goHope_21 : decode cX12_goHope 21 = .ok (.iload_n 2, 1) := by decide +kernel
theorem dX12_goHope_22 : decode cX12_goHope 22 = .ok (.if_icmp .ne 7, 3) := by decide +kernel
theorem dX12_goHope_25 : decode cX12_goHope 25 = .ok (.iconst 1, 1) := by decide +kernel
theorem dX12_goHope_26 : decode cX12_goHope 26 = .ok (.goto 4, 3) := by decide +kernel
theorem dX12_goHope_29 : decode cX12_goHope 29 = .ok (.iconst 0, 1) := by decide +kernel
theorem dX12_goHope_30 : decode cX12_goHope 30 = .ok (.iadd, 1) := by decide +kernel
theorem dX12_goHope_31 : decode cX12_goHope 31 = .ok (.putfield 427, 3) := by decide +kernel
theorem dX12_goHope_34 : decode cX12_goHope 34 = .ok (.aload_n 0, 1) := by decide +kernel
theorem dX12_goHope_35 : decode cX12_goHope 35 = .ok (.dup, 1) := by decide +kernel
theorem dX12_goHope_36 : decode cX12_goHope 36 = .ok (.getfield 430, 3) := by decide +kernel
theorem dX12_goHope_39 : decode cX12_goHope 39 = .ok (.aload_n 0, 1) := by decide +kernel
theorem dX12_goHope_40 : decode cX12_goHope 40 = .ok (.iload_n 2, 1) := by decide +kernel
theorem dX12_goHope_41 : decode cX12_goHope 41 = .ok (.invokevirtual 348, 3) := by decide +kernel
theorem dX12_goHope_44 : decode cX12_goHope 44 = .ok (.iadd, 1) := by decide +kernel
theorem dX12_goHope_45 : decode cX12_goHope 45 = .ok (.putfield 430, 3) := by decide +kernel
theorem dX12_goHope_48 : decode cX12_goHope 48 = .ok (.return_, 1) := by decide +kernel
theorem dX12_goHope_49 : decode cX12_goHope 49 = .ok (.iload_n 1, 1) := by decide +kernel
theorem dX12_goHope_50 : decode cX12_goHope 50 = .ok (.iload_n 2, 1) := by decide +kernel
theorem dX12_goHope_51 : decode cX12_goHope 51 = .ok (.if_icmp .ne 12, 3) := by decide +kernel
theorem dX12_goHope_54 : decode cX12_goHope 54 = .ok (.aload_n 0, 1) := by decide +kernel
theorem dX12_goHope_55 : decode cX12_goHope 55 = .ok (.iload_n 1, 1) := by decide +kernel
theorem dX12_goHope_56 : decode cX12_goHope 56 = .ok (.iconst 1, 1) := by decide +kernel
theorem dX12_goHope_57 : decode cX12_goHope 57 = .ok (.iadd, 1) := by decide +kernel
theorem dX12_goHope_58 : decode cX12_goHope 58 = .ok (.iload_n 2, 1) := by decide +kernel
theorem dX12_goHope_59 : decode cX12_goHope 59 = .ok (.invokevirtual 433, 3) := by decide +kernel
theorem dX12_goHope_62 : decode cX12_goHope 62 = .ok (.return_, 1) := by decide +kernel
theorem dX12_goHope_63 : decode cX12_goHope 63 = .ok (.iconst 0, 1) := by decide +kernel
theorem dX12_goHope_64 : decode cX12_goHope 64 = .ok (.istore_n 3, 1) := by decide +kernel
theorem dX12_goHope_65 : decode cX12_goHope 65 = .ok (.iload_n 3, 1) := by decide +kernel
theorem dX12_goHope_66 : decode cX12_goHope 66 = .ok (.aload_n 0, 1) := by decide +kernel
theorem dX12_goHope_67 : decode cX12_goHope 67 = .ok (.getfield 43, 3) := by decide +kernel
theorem dX12_goHope_70 : decode cX12_goHope 70 = .ok (.iconst 4, 1) := by decide +kernel
theorem dX12_goHope_71 : decode cX12_goHope 71 = .ok (.iaload, 1) := by decide +kernel
theorem dX12_goHope_72 : decode cX12_goHope 72 = .ok (.if_icmp .gt 24, 3) := by decide +kernel
theorem dX12_goHope_75 : decode cX12_goHope 75 = .ok (.aload_n 0, 1) := by decide +kernel
theorem dX12_goHope_76 : decode cX12_goHope 76 = .ok (.getfield 72, 3) := by decide +kernel
theorem dX12_goHope_79 : decode cX12_goHope 79 = .ok (.iload_n 1, 1) := by decide +kernel
theorem dX12_goHope_80 : decode cX12_goHope 80 = .ok (.iload_n 3, 1) := by decide +kernel
theorem dX12_goHope_81 : decode cX12_goHope 81 = .ok (.iastore, 1) := by decide +kernel
theorem dX12_goHope_82 : decode cX12_goHope 82 = .ok (.aload_n 0, 1) := by decide +kernel
theorem dX12_goHope_83 : decode cX12_goHope 83 = .ok (.iload_n 1, 1) := by decide +kernel
theorem dX12_goHope_84 : decode cX12_goHope 84 = .ok (.iconst 1, 1) := by decide +kernel
theorem dX12_goHope_85 : decode cX12_goHope 85 = .ok (.iadd, 1) := by decide +kernel
theorem dX12_goHope_86 : decode cX12_goHope 86 = .ok (.iload_n 2, 1) := by decide +kernel
theorem dX12_goHope_87 : decode cX12_goHope 87 = .ok (.invokevirtual 433, 3) := by decide +kernel
theorem dX12_goHope_90 : decode cX12_goHope 90 = .ok (.iinc 3 1, 3) := by decide +kernel
theorem dX12_goHope_93 : decode cX12_goHope 93 = .ok (.goto (-28), 3) := by decide +kernel
theorem dX12_goHope_96 : decode cX12_goHope 96 = .ok (.return_, 1) := by decide +kernel
def m_goHope_96 (c_m_goHope : Int → Int → aw_W → Option (aw_W)) (N : Nat) (w : aw_W) : Option (aw_W) :=
  some w
theorem w_m_goHope_96 {l : Launch} {K : aw_K} (N d : Nat) (hd : 3 ≤ d) (c_m_goHope : Int → Int → aw_W → Option (aw_W)) (hc_m_goHope : ∀ (x1 x2 : Int) (w v : aw_W), c_m_goHope x1 x2 w = some v → aw_Met l K MX12_goHope (d) [.inr (.inr 49), .inl x1, .inl x2] w (none, v)) : ∀ (w v : aw_W), m_goHope_96 c_m_goHope N w = some v → aw_AW l K MX12_goHope (d + 1) 96 [] [] w (none, v) := by
  intro w v h
  unfold m_goHope_96 at h
  cases h
  exact aw_vret (pc := 96) rfl dX12_goHope_96
def m_goHope_65 (c_m_goHope : Int → Int → aw_W → Option (aw_W)) (N : Nat) : Nat → Int → Int → Int → aw_W → Option (aw_W)
  | 0, _, _, _, _ => none
  | n + 1, x1, x2, x3, w =>
    if (w 56 4) < x3 then
      m_goHope_96 c_m_goHope N w
    else
      if 0 ≤ x1 ∧ x1 < 6 then
        aw_b1 (c_m_goHope (aw_w (x1 + 1)) x2 (aw_up w 64 x1.toNat x3)) fun w1 =>
          m_goHope_65 c_m_goHope N n x1 x2 (aw_w (x3 + 1)) w1
      else none
theorem w_m_goHope_65 {l : Launch} {K : aw_K} (N d : Nat) (hd : 3 ≤ d) (c_m_goHope : Int → Int → aw_W → Option (aw_W)) (hc_m_goHope : ∀ (x1 x2 : Int) (w v : aw_W), c_m_goHope x1 x2 w = some v → aw_Met l K MX12_goHope (d) [.inr (.inr 49), .inl x1, .inl x2] w (none, v)) : ∀ (n : Nat) (x1 x2 x3 : Int) (w v : aw_W), m_goHope_65 c_m_goHope N n x1 x2 x3 w = some v → aw_AW l K MX12_goHope (d + 1) 65 [(0, .inr (.inr 49)), (1, .inl x1), (2, .inl x2), (3, .inl x3)] [] w (none, v) := by
  intro n
  induction n with
  | zero => intro x1 x2 x3 w v h; rw [m_goHope_65] at h; cases h
  | succ n ih =>
    intro x1 x2 x3 w v h
    rw [m_goHope_65] at h
    refine aw_iload_n (pc := 65) (q := 3) dX12_goHope_65 rfl ?_
    refine aw_aload_n (pc := 66) (q := 0) dX12_goHope_66 rfl ?_
    refine aw_getf (pc := 67) (v := .inr (.inr 56)) dX12_goHope_67 fl_RX12_43 (by decide) rfl rfl rfl ?_
    refine aw_iconst (pc := 70) dX12_goHope_70 ⟨by decide, by decide⟩ ?_
    refine aw_ialdv (pc := 71) (v := w 56 4) dX12_goHope_71 rfl (by decide) (by decide) rfl ?_
    refine aw_icmp_gt (pc := 72) (tgt := 96) dX12_goHope_72 (by decide) (fun hc => ?_) (fun hc => ?_)
    · rw [if_pos hc] at h
      exact aw_sel [] rfl (w_m_goHope_96 N d hd c_m_goHope hc_m_goHope  _ _ h)
    · rw [if_neg hc] at h
      refine aw_aload_n (pc := 75) (q := 0) dX12_goHope_75 rfl ?_
      refine aw_getf (pc := 76) (v := .inr (.inr 64)) dX12_goHope_76 fl_RX12_72 (by decide) rfl rfl rfl ?_
      refine aw_iload_n (pc := 79) (q := 1) dX12_goHope_79 rfl ?_
      refine aw_iload_n (pc := 80) (q := 3) dX12_goHope_80 rfl ?_
      obtain ⟨hb, h⟩ := aw_cks h
      refine aw_iast (pc := 81) dX12_goHope_81 rfl hb.1 hb.2 ?_
      refine aw_aload_n (pc := 82) (q := 0) dX12_goHope_82 rfl ?_
      refine aw_iload_n (pc := 83) (q := 1) dX12_goHope_83 rfl ?_
      refine aw_iconst (pc := 84) dX12_goHope_84 ⟨by decide, by decide⟩ ?_
      refine aw_iadd (pc := 85) dX12_goHope_85 ?_
      refine aw_iload_n (pc := 86) (q := 2) dX12_goHope_86 rfl ?_
      obtain ⟨w1, h1, h⟩ := aw_b1s h
      refine aw_callV (pc := 87) (as := [.inl (aw_w (x1 + 1)), .inl x2]) (st := []) (st' := []) dX12_goHope_87 cv_RX12_433 (by decide) rfl rfl rfl rfl (Nat.le_of_ble_eq_true rfl) (hc_m_goHope _ _ _ _ h1) rfl ?_
      refine aw_iinc (pc := 90) (q := 3) (ls' := [(3, .inl (aw_w (x3 + 1))), (0, .inr (.inr 49)), (1, .inl x1), (2, .inl x2)]) dX12_goHope_90 rfl (by decide) rfl ?_
      refine aw_goto (pc := 93) (tgt := 65) dX12_goHope_93 (by decide) ?_
      exact aw_sel [1, 2, 3, 0] rfl (ih _ _ _ _ _ h)
def m_goHope_30 (c_m_goHope : Int → Int → aw_W → Option (aw_W)) (N : Nat) (x2 s0 s1 : Int) (w : aw_W) : Option (aw_W) :=
  aw_b2 (m_gainOf N x2 (aw_up w 49 45 (aw_w (s1 + s0)))) fun r1 w1 =>
    some (aw_up w1 49 46 (aw_w ((w 49 46) + r1)))
theorem w_m_goHope_30 {l : Launch} {K : aw_K} (N d : Nat) (hd : 3 ≤ d) (c_m_goHope : Int → Int → aw_W → Option (aw_W)) (hc_m_goHope : ∀ (x1 x2 : Int) (w v : aw_W), c_m_goHope x1 x2 w = some v → aw_Met l K MX12_goHope (d) [.inr (.inr 49), .inl x1, .inl x2] w (none, v)) : ∀ (x2 s0 s1 : Int) (w v : aw_W), m_goHope_30 c_m_goHope N x2 s0 s1 w = some v → aw_AW l K MX12_goHope (d + 1) 30 [(0, .inr (.inr 49)), (2, .inl x2)] [.inl s0, .inl s1, .inr (.inr 49)] w (none, v) := by
  intro x2 s0 s1 w v h
  unfold m_goHope_30 at h
  refine aw_iadd (pc := 30) dX12_goHope_30 ?_
  refine aw_puti (pc := 31) dX12_goHope_31 fp_RX12_427 (by decide) rfl rfl ?_
  refine aw_aload_n (pc := 34) (q := 0) dX12_goHope_34 rfl ?_
  refine aw_dup (pc := 35) dX12_goHope_35 rfl ?_
  refine aw_getf (pc := 36) (v := .inl (w 49 46)) dX12_goHope_36 fl_RX12_430 (by decide) rfl rfl rfl ?_
  refine aw_aload_n (pc := 39) (q := 0) dX12_goHope_39 rfl ?_
  refine aw_iload_n (pc := 40) (q := 1) dX12_goHope_40 rfl ?_
  obtain ⟨r1, w1, h1, h⟩ := aw_b2s h
  refine aw_callV (pc := 41) (as := [.inl x2]) (st := [.inl (w 49 46), .inr (.inr 49)]) (st' := [.inl r1, .inl (w 49 46), .inr (.inr 49)]) dX12_goHope_41 cv_RX12_348 (by decide) rfl rfl rfl rfl (Nat.le_of_ble_eq_true rfl) (w_m_gainOf N d (by omega) _ _ _ _ h1) rfl ?_
  refine aw_iadd (pc := 44) dX12_goHope_44 ?_
  refine aw_puti (pc := 45) dX12_goHope_45 fp_RX12_430 (by decide) rfl rfl ?_
  cases h
  exact aw_vret (pc := 48) rfl dX12_goHope_48
def m_goHope_b (c_m_goHope : Int → Int → aw_W → Option (aw_W)) (N : Nat) (x1 x2 : Int) (w : aw_W) : Option (aw_W) :=
  if x1 = (w 49 22) then
    aw_b1 (m_judge N w) fun w2 =>
      aw_b2 (m_winner N w2) fun r3 w3 =>
        if r3 = x2 then
          m_goHope_30 c_m_goHope N x2 1 (w2 49 45) w3
        else
          m_goHope_30 c_m_goHope N x2 0 (w2 49 45) w3
  else
    if x1 = x2 then
      aw_b1 (c_m_goHope (aw_w (x1 + 1)) x2 w) fun w1 =>
        some w1
    else
      m_goHope_65 c_m_goHope N N x1 x2 0 w
theorem w_m_goHope_b {l : Launch} {K : aw_K} (N d : Nat) (hd : 3 ≤ d) (c_m_goHope : Int → Int → aw_W → Option (aw_W)) (hc_m_goHope : ∀ (x1 x2 : Int) (w v : aw_W), c_m_goHope x1 x2 w = some v → aw_Met l K MX12_goHope (d) [.inr (.inr 49), .inl x1, .inl x2] w (none, v)) : ∀ (x1 x2 : Int) (w v : aw_W), m_goHope_b c_m_goHope N x1 x2 w = some v → aw_Met l K MX12_goHope (d + 1) [.inr (.inr 49), .inl x1, .inl x2] w (none, v) := by
  intro x1 x2 w v h
  unfold m_goHope_b at h
  refine aw_enter rfl (Nat.le_of_ble_eq_true rfl) ?_
  show aw_AW l K MX12_goHope (d + 1) 0 [(0, .inr (.inr 49)), (1, .inl x1), (2, .inl x2)] [] w (none, v)
  refine aw_iload_n (pc := 0) (q := 1) dX12_goHope_0 rfl ?_
  refine aw_aload_n (pc := 1) (q := 0) dX12_goHope_1 rfl ?_
  refine aw_getf (pc := 2) (v := .inl (w 49 22)) dX12_goHope_2 fl_RX12_270 (by decide) rfl rfl rfl ?_
  refine aw_icmp_ne (pc := 5) (tgt := 49) dX12_goHope_5 (by decide) (fun hc => ?_) (fun hc => ?_)
  · rw [if_neg hc] at h
    refine aw_iload_n (pc := 49) (q := 1) dX12_goHope_49 rfl ?_
    refine aw_iload_n (pc := 50) (q := 2) dX12_goHope_50 rfl ?_
    refine aw_icmp_ne (pc := 51) (tgt := 63) dX12_goHope_51 (by decide) (fun hc => ?_) (fun hc => ?_)
    · rw [if_neg hc] at h
      refine aw_iconst (pc := 63) dX12_goHope_63 ⟨by decide, by decide⟩ ?_
      refine aw_istore_n (pc := 64) (ls' := [(3, .inl 0), (0, .inr (.inr 49)), (1, .inl x1), (2, .inl x2)]) dX12_goHope_64 (by decide) rfl ?_
      exact aw_sel [1, 2, 3, 0] rfl (w_m_goHope_65 N d hd c_m_goHope hc_m_goHope  N _ _ _ _ _ h)
    · rw [if_pos hc] at h
      refine aw_aload_n (pc := 54) (q := 0) dX12_goHope_54 rfl ?_
      refine aw_iload_n (pc := 55) (q := 1) dX12_goHope_55 rfl ?_
      refine aw_iconst (pc := 56) dX12_goHope_56 ⟨by decide, by decide⟩ ?_
      refine aw_iadd (pc := 57) dX12_goHope_57 ?_
      refine aw_iload_n (pc := 58) (q := 2) dX12_goHope_58 rfl ?_
      obtain ⟨w1, h1, h⟩ := aw_b1s h
      refine aw_callV (pc := 59) (as := [.inl (aw_w (x1 + 1)), .inl x2]) (st := []) (st' := []) dX12_goHope_59 cv_RX12_433 (by decide) rfl rfl rfl rfl (Nat.le_of_ble_eq_true rfl) (hc_m_goHope _ _ _ _ h1) rfl ?_
      cases h
      exact aw_vret (pc := 62) rfl dX12_goHope_62
  · rw [if_pos hc] at h
    refine aw_aload_n (pc := 8) (q := 0) dX12_goHope_8 rfl ?_
    obtain ⟨w2, h2, h⟩ := aw_b1s h
    refine aw_callV (pc := 9) (as := []) (st := []) (st' := []) dX12_goHope_9 cv_RX12_326 (by decide) rfl rfl rfl rfl (Nat.le_of_ble_eq_true rfl) (w_m_judge N d (by omega) _ _ h2) rfl ?_
    refine aw_aload_n (pc := 12) (q := 0) dX12_goHope_12 rfl ?_
    refine aw_dup (pc := 13) dX12_goHope_13 rfl ?_
    refine aw_getf (pc := 14) (v := .inl (w2 49 45)) dX12_goHope_14 fl_RX12_427 (by decide) rfl rfl rfl ?_
    refine aw_aload_n (pc := 17) (q := 0) dX12_goHope_17 rfl ?_
    obtain ⟨r3, w3, h3, h⟩ := aw_b2s h
    refine aw_callV (pc := 18) (as := []) (st := [.inl (w2 49 45), .inr (.inr 49)]) (st' := [.inl r3, .inl (w2 49 45), .inr (.inr 49)]) dX12_goHope_18 cv_RX12_320 (by decide) rfl rfl rfl rfl (Nat.le_of_ble_eq_true rfl) (w_m_winner N d (by omega) _ _ _ h3) rfl ?_
    refine aw_iload_n (pc := 21) (q := 2) dX12_goHope_21 rfl ?_
    refine aw_icmp_ne (pc := 22) (tgt := 29) dX12_goHope_22 (by decide) (fun hc => ?_) (fun hc => ?_)
    · rw [if_neg hc] at h
      refine aw_iconst (pc := 29) dX12_goHope_29 ⟨by decide, by decide⟩ ?_
      exact aw_sel [0, 2] rfl (w_m_goHope_30 N d hd c_m_goHope hc_m_goHope  _ _ _ _ _ h)
    · rw [if_pos hc] at h
      refine aw_iconst (pc := 25) dX12_goHope_25 ⟨by decide, by decide⟩ ?_
      refine aw_goto (pc := 26) (tgt := 30) dX12_goHope_26 (by decide) ?_
      exact aw_sel [0, 2] rfl (w_m_goHope_30 N d hd c_m_goHope hc_m_goHope  _ _ _ _ _ h)
def g_m_goHope (N : Nat) : Nat → (Int → Int → aw_W → Option (aw_W))
  | 0 => (fun _ _ _ => none)
  | D + 1 => m_goHope_b (g_m_goHope N D) N
def m_goHope (N : Nat) : Int → Int → aw_W → Option (aw_W) := (g_m_goHope N 60)
theorem w_g_m_goHope {l : Launch} {K : aw_K} (N : Nat) : ∀ D d : Nat, 3 + D ≤ d → (∀ (x1 x2 : Int) (w v : aw_W), (g_m_goHope N D) x1 x2 w = some v → aw_Met l K MX12_goHope (d) [.inr (.inr 49), .inl x1, .inl x2] w (none, v))
  | 0, d, _ => fun _ _ _ _ h => (by cases h)
  | D + 1, 0, h => absurd h (by omega)
  | D + 1, d + 1, h => by
    have ih := w_g_m_goHope (l := l) (K := K) N D d (by omega)
    exact w_m_goHope_b N d (by omega) _ ih
theorem w_m_goHope {l : Launch} {K : aw_K} (N d : Nat) (hd : 63 ≤ d) : ∀ (x1 x2 : Int) (w v : aw_W), m_goHope N x1 x2 w = some v → aw_Met l K MX12_goHope (d) [.inr (.inr 49), .inl x1, .inl x2] w (none, v) := (w_g_m_goHope N 60 d (by omega))
theorem dX12_hopes_0 : decode cX12_hopes 0 = .ok (.aload_n 0, 1) := by decide +kernel
theorem dX12_hopes_1 : decode cX12_hopes 1 = .ok (.iconst 0, 1) := by decide +kernel
theorem dX12_hopes_2 : decode cX12_hopes 2 = .ok (.putfield 427, 3) := by decide +kernel
theorem dX12_hopes_5 : decode cX12_hopes 5 = .ok (.aload_n 0, 1) := by decide +kernel
theorem dX12_hopes_6 : decode cX12_hopes 6 = .ok (.iconst 0, 1) := by decide +kernel
theorem dX12_hopes_7 : decode cX12_hopes 7 = .ok (.putfield 430, 3) := by decide +kernel
theorem dX12_hopes_10 : decode cX12_hopes 10 = .ok (.aload_n 0, 1) := by decide +kernel
theorem dX12_hopes_11 : decode cX12_hopes 11 = .ok (.getfield 72, 3) := by decide +kernel
theorem dX12_hopes_14 : decode cX12_hopes 14 = .ok (.iload_n 1, 1) := by decide +kernel
theorem dX12_hopes_15 : decode cX12_hopes 15 = .ok (.iload_n 2, 1) := by decide +kernel
theorem dX12_hopes_16 : decode cX12_hopes 16 = .ok (.iastore, 1) := by decide +kernel
theorem dX12_hopes_17 : decode cX12_hopes 17 = .ok (.aload_n 0, 1) := by decide +kernel
theorem dX12_hopes_18 : decode cX12_hopes 18 = .ok (.iconst 0, 1) := by decide +kernel
theorem dX12_hopes_19 : decode cX12_hopes 19 = .ok (.iload_n 1, 1) := by decide +kernel
theorem dX12_hopes_20 : decode cX12_hopes 20 = .ok (.invokevirtual 433, 3) := by decide +kernel
theorem dX12_hopes_23 : decode cX12_hopes 23 = .ok (.return_, 1) := by decide +kernel
def m_hopes (N : Nat) (x1 x2 : Int) (w : aw_W) : Option (aw_W) :=
  if 0 ≤ x1 ∧ x1 < 6 then
    aw_b1 (m_goHope N 0 x1 (aw_up (aw_up (aw_up w 49 45 0) 49 46 0) 64 x1.toNat x2)) fun w1 =>
      some w1
  else none
theorem w_m_hopes_d {l : Launch} {K : aw_K} (N d : Nat) (hd : 63 ≤ d) : ∀ (x1 x2 : Int) (w v : aw_W), m_hopes N x1 x2 w = some v → aw_Met l K MX12_hopes (d + 1) [.inr (.inr 49), .inl x1, .inl x2] w (none, v) := by
  intro x1 x2 w v h
  unfold m_hopes at h
  refine aw_enter rfl (Nat.le_of_ble_eq_true rfl) ?_
  show aw_AW l K MX12_hopes (d + 1) 0 [(0, .inr (.inr 49)), (1, .inl x1), (2, .inl x2)] [] w (none, v)
  refine aw_aload_n (pc := 0) (q := 0) dX12_hopes_0 rfl ?_
  refine aw_iconst (pc := 1) dX12_hopes_1 ⟨by decide, by decide⟩ ?_
  refine aw_puti (pc := 2) dX12_hopes_2 fp_RX12_427 (by decide) rfl rfl ?_
  refine aw_aload_n (pc := 5) (q := 0) dX12_hopes_5 rfl ?_
  refine aw_iconst (pc := 6) dX12_hopes_6 ⟨by decide, by decide⟩ ?_
  refine aw_puti (pc := 7) dX12_hopes_7 fp_RX12_430 (by decide) rfl rfl ?_
  refine aw_aload_n (pc := 10) (q := 0) dX12_hopes_10 rfl ?_
  refine aw_getf (pc := 11) (v := .inr (.inr 64)) dX12_hopes_11 fl_RX12_72 (by decide) rfl rfl rfl ?_
  refine aw_iload_n (pc := 14) (q := 1) dX12_hopes_14 rfl ?_
  refine aw_iload_n (pc := 15) (q := 2) dX12_hopes_15 rfl ?_
  obtain ⟨hb, h⟩ := aw_cks h
  refine aw_iast (pc := 16) dX12_hopes_16 rfl hb.1 hb.2 ?_
  refine aw_aload_n (pc := 17) (q := 0) dX12_hopes_17 rfl ?_
  refine aw_iconst (pc := 18) dX12_hopes_18 ⟨by decide, by decide⟩ ?_
  refine aw_iload_n (pc := 19) (q := 1) dX12_hopes_19 rfl ?_
  obtain ⟨w1, h1, h⟩ := aw_b1s h
  refine aw_callV (pc := 20) (as := [.inl 0, .inl x1]) (st := []) (st' := []) dX12_hopes_20 cv_RX12_433 (by decide) rfl rfl rfl rfl (Nat.le_of_ble_eq_true rfl) (w_m_goHope N d (by omega) _ _ _ _ h1) rfl ?_
  cases h
  exact aw_vret (pc := 23) rfl dX12_hopes_23
theorem w_m_hopes {l : Launch} {K : aw_K} (N d : Nat) (hd : 64 ≤ d) : ∀ (x1 x2 : Int) (w v : aw_W), m_hopes N x1 x2 w = some v → aw_Met l K MX12_hopes (d) [.inr (.inr 49), .inl x1, .inl x2] w (none, v) := by
  obtain ⟨e, rfl⟩ : ∃ e, d = e + 1 := ⟨d - 1, by omega⟩
  exact w_m_hopes_d N e (by omega)
theorem dX12_bold_0 : decode cX12_bold 0 = .ok (.aload_n 0, 1) := by decide +kernel
theorem dX12_bold_1 : decode cX12_bold 1 = .ok (.iconst 0, 1) := by decide +kernel
theorem dX12_bold_2 : decode cX12_bold 2 = .ok (.putfield 99, 3) := by decide +kernel
theorem dX12_bold_5 : decode cX12_bold 5 = .ok (.aload_n 0, 1) := by decide +kernel
theorem dX12_bold_6 : decode cX12_bold 6 = .ok (.invokevirtual 360, 3) := by decide +kernel
theorem dX12_bold_9 : decode cX12_bold 9 = .ok (.ifCond .eq 11, 3) := by decide +kernel
theorem dX12_bold_12 : decode cX12_bold 12 = .ok (.aload_n 0, 1) := by decide +kernel
theorem dX12_bold_13 : decode cX12_bold 13 = .ok (.iload_n 1, 1) := by decide +kernel
theorem dX12_bold_14 : decode cX12_bold 14 = .ok (.invokevirtual 282, 3) := by decide +kernel
theorem dX12_bold_17 : decode cX12_bold 17 = .ok (.ifCond .ne 5, 3) := by decide +kernel
theorem dX12_bold_20 : decode cX12_bold 20 = .ok (.iconst (-1), 1) := by decide +kernel
theorem dX12_bold_21 : decode cX12_bold 21 = .ok (.ireturn, 1) := by decide +kernel
theorem dX12_bold_22 : decode cX12_bold 22 = .ok (.iconst (-1), 1) := by decide +kernel
theorem dX12_bold_23 : decode cX12_bold 23 = .ok (.istore_n 2, 1) := by decide +kernel
theorem dX12_bold_24 : decode cX12_bold 24 = .ok (.iconst 0, 1) := by decide +kernel
theorem dX12_bold_25 : decode cX12_bold 25 = .ok (.istore_n 3, 1) := by decide +kernel
theorem dX12_bold_26 : decode cX12_bold 26 = .ok (.iconst 0, 1) := by decide +kernel
theorem dX12_bold_27 : decode cX12_bold 27 = .ok (.istore 4, 2) := by decide +kernel
theorem dX12_bold_29 : decode cX12_bold 29 = .ok (.iload 4, 2) := by decide +kernel
theorem dX12_bold_31 : decode cX12_bold 31 = .ok (.aload_n 0, 1) := by decide +kernel
theorem dX12_bold_32 : decode cX12_bold 32 = .ok (.getfield 43, 3) := by decide +kernel
theorem dX12_bold_35 : decode cX12_bold 35 = .ok (.iconst 4, 1) := by decide +kernel
theorem dX12_bold_36 : decode cX12_bold 36 = .ok (.iaload, 1) := by decide +kernel
theorem dX12_bold_37 : decode cX12_bold 37 = .ok (.if_icmp .gt 40, 3) := by decide +kernel
theorem dX12_bold_40 : decode cX12_bold 40 = .ok (.aload_n 0, 1) := by decide +kernel
theorem dX12_bold_41 : decode cX12_bold 41 = .ok (.iload_n 1, 1) := by decide +kernel
theorem dX12_bold_42 : decode cX12_bold 42 = .ok (.iload 4, 2) := by decide +kernel
theorem dX12_bold_44 : decode cX12_bold 44 = .ok (.invokevirtual 436, 3) := by decide +kernel
theorem dX12_bold_47 : decode cX12_bold 47 = .ok (.iload_n 2, 1) := by decide +kernel
theorem dX12_bold_48 : decode cX12_bold 48 = .ok (.iconst (-1), 1) := by decide +kernel
theorem dX12_bold_49 : decode cX12_bold 49 = .ok (.if_icmp .eq 14, 3) := by decide +kernel
theorem dX12_bold_52 : decode cX12_bold 52 = .ok (.aload_n 0, 1) := by decide +kernel
theorem dX12_bold_53 : decode cX12_bold 53 = .ok (.getfield 430, 3) := by decide +kernel
theorem dX12_bold_56 : decode cX12_bold 56 = .ok (.iload_n 3, 1) := by decide +kernel
theorem dX12_bold_57 : decode cX12_bold 57 = .ok (.if_icmp .gt 6, 3) := by decide +kernel
theorem dX12_bold_60 : decode cX12_bold 60 = .ok (.goto 11, 3) := by decide +kernel
theorem dX12_bold_63 : decode cX12_bold 63 = .ok (.iload 4, 2) := by decide +kernel
theorem dX12_bold_65 : decode cX12_bold 65 = .ok (.istore_n 2, 1) := by decide +kernel
theorem dX12_bold_66 : decode cX12_bold 66 = .ok (.aload_n 0, 1) := by decide +kernel
theorem dX12_bold_67 : decode cX12_bold 67 = .ok (.getfield 430, 3) := by decide +kernel
theorem dX12_bold_70 : decode cX12_bold 70 = .ok (.istore_n 3, 1) := by decide +kernel
theorem dX12_bold_71 : decode cX12_bold 71 = .ok (.iinc 4 1, 3) := by decide +kernel
theorem dX12_bold_74 : decode cX12_bold 74 = .ok (.goto (-45), 3) := by decide +kernel
theorem dX12_bold_77 : decode cX12_bold 77 = .ok (.iload_n 2, 1) := by decide +kernel
theorem dX12_bold_78 : decode cX12_bold 78 = .ok (.ireturn, 1) := by decide +kernel
def m_bold_20 (N : Nat) (w : aw_W) : Option (Int × aw_W) :=
  some ((-1), w)
theorem w_m_bold_20 {l : Launch} {K : aw_K} (N d : Nat) (hd : 64 ≤ d) : ∀ (w : aw_W) (y : Int) (v : aw_W), m_bold_20 N w = some (y, v) → aw_AW l K MX12_bold (d + 1) 20 [] [] w (some (.inl y), v) := by
  intro w y v h
  unfold m_bold_20 at h
  refine aw_iconst (pc := 20) dX12_bold_20 ⟨by decide, by decide⟩ ?_
  cases h
  exact aw_iret (pc := 21) rfl dX12_bold_21
def m_bold_77 (N : Nat) (x2 : Int) (w : aw_W) : Option (Int × aw_W) :=
  some (x2, w)
theorem w_m_bold_77 {l : Launch} {K : aw_K} (N d : Nat) (hd : 64 ≤ d) : ∀ (x2 : Int) (w : aw_W) (y : Int) (v : aw_W), m_bold_77 N x2 w = some (y, v) → aw_AW l K MX12_bold (d + 1) 77 [(2, .inl x2)] [] w (some (.inl y), v) := by
  intro x2 w y v h
  unfold m_bold_77 at h
  refine aw_iload_n (pc := 77) (q := 0) dX12_bold_77 rfl ?_
  cases h
  exact aw_iret (pc := 78) rfl dX12_bold_78
def m_bold_71 (N : Nat) (k29 : Int → Int → Int → Int → aw_W → Option (Int × aw_W)) (x1 x2 x3 x4 : Int) (w : aw_W) : Option (Int × aw_W) :=
  k29 x1 x2 x3 (aw_w (x4 + 1)) w
theorem w_m_bold_71 {l : Launch} {K : aw_K} (N d : Nat) (hd : 64 ≤ d) (k29 : Int → Int → Int → Int → aw_W → Option (Int × aw_W)) (hk29 : ∀ (x1 x2 x3 x4 : Int) (w : aw_W) (y : Int) (v : aw_W), k29 x1 x2 x3 x4 w = some (y, v) → aw_AW l K MX12_bold (d + 1) 29 [(0, .inr (.inr 49)), (1, .inl x1), (2, .inl x2), (3, .inl x3), (4, .inl x4)] [] w (some (.inl y), v)) : ∀ (x1 x2 x3 x4 : Int) (w : aw_W) (y : Int) (v : aw_W), m_bold_71 N k29 x1 x2 x3 x4 w = some (y, v) → aw_AW l K MX12_bold (d + 1) 71 [(0, .inr (.inr 49)), (1, .inl x1), (2, .inl x2), (3, .inl x3), (4, .inl x4)] [] w (some (.inl y), v) := by
  intro x1 x2 x3 x4 w y v h
  unfold m_bold_71 at h
  refine aw_iinc (pc := 71) (q := 4) (ls' := [(4, .inl (aw_w (x4 + 1))), (0, .inr (.inr 49)), (1, .inl x1), (2, .inl x2), (3, .inl x3)]) dX12_bold_71 rfl (by decide) rfl ?_
  refine aw_goto (pc := 74) (tgt := 29) dX12_bold_74 (by decide) ?_
  exact aw_sel [1, 2, 3, 4, 0] rfl (hk29 _ _ _ _ _ _ _ h)
def m_bold_63 (N : Nat) (k29 : Int → Int → Int → Int → aw_W → Option (Int × aw_W)) (x1 x4 : Int) (w : aw_W) : Option (Int × aw_W) :=
  m_bold_71 N k29 x1 x4 (w 49 46) x4 w
theorem w_m_bold_63 {l : Launch} {K : aw_K} (N d : Nat) (hd : 64 ≤ d) (k29 : Int → Int → Int → Int → aw_W → Option (Int × aw_W)) (hk29 : ∀ (x1 x2 x3 x4 : Int) (w : aw_W) (y : Int) (v : aw_W), k29 x1 x2 x3 x4 w = some (y, v) → aw_AW l K MX12_bold (d + 1) 29 [(0, .inr (.inr 49)), (1, .inl x1), (2, .inl x2), (3, .inl x3), (4, .inl x4)] [] w (some (.inl y), v)) : ∀ (x1 x4 : Int) (w : aw_W) (y : Int) (v : aw_W), m_bold_63 N k29 x1 x4 w = some (y, v) → aw_AW l K MX12_bold (d + 1) 63 [(0, .inr (.inr 49)), (1, .inl x1), (4, .inl x4)] [] w (some (.inl y), v) := by
  intro x1 x4 w y v h
  unfold m_bold_63 at h
  refine aw_iload (pc := 63) (q := 2) dX12_bold_63 rfl ?_
  refine aw_istore_n (pc := 65) (ls' := [(2, .inl x4), (0, .inr (.inr 49)), (1, .inl x1), (4, .inl x4)]) dX12_bold_65 (by decide) rfl ?_
  refine aw_aload_n (pc := 66) (q := 1) dX12_bold_66 rfl ?_
  refine aw_getf (pc := 67) (v := .inl (w 49 46)) dX12_bold_67 fl_RX12_430 (by decide) rfl rfl rfl ?_
  refine aw_istore_n (pc := 70) (ls' := [(3, .inl (w 49 46)), (2, .inl x4), (0, .inr (.inr 49)), (1, .inl x1), (4, .inl x4)]) dX12_bold_70 (by decide) rfl ?_
  exact aw_sel [2, 3, 1, 0, 4] rfl (w_m_bold_71 N d hd  _ hk29 _ _ _ _ _ _ _ h)
def m_bold_29 (N : Nat) : Nat → Int → Int → Int → Int → aw_W → Option (Int × aw_W)
  | 0, _, _, _, _, _ => none
  | n + 1, x1, x2, x3, x4, w =>
    if (w 56 4) < x4 then
      m_bold_77 N x2 w
    else
      aw_b1 (m_hopes N x1 x4 w) fun w1 =>
        if x2 = (-1) then
          m_bold_63 N (m_bold_29 N n) x1 x4 w1
        else
          if x3 < (w1 49 46) then
            m_bold_63 N (m_bold_29 N n) x1 x4 w1
          else
            m_bold_71 N (m_bold_29 N n) x1 x2 x3 x4 w1
theorem w_m_bold_29 {l : Launch} {K : aw_K} (N d : Nat) (hd : 64 ≤ d) : ∀ (n : Nat) (x1 x2 x3 x4 : Int) (w : aw_W) (y : Int) (v : aw_W), m_bold_29 N n x1 x2 x3 x4 w = some (y, v) → aw_AW l K MX12_bold (d + 1) 29 [(0, .inr (.inr 49)), (1, .inl x1), (2, .inl x2), (3, .inl x3), (4, .inl x4)] [] w (some (.inl y), v) := by
  intro n
  induction n with
  | zero => intro x1 x2 x3 x4 w y v h; rw [m_bold_29] at h; cases h
  | succ n ih =>
    intro x1 x2 x3 x4 w y v h
    rw [m_bold_29] at h
    refine aw_iload (pc := 29) (q := 4) dX12_bold_29 rfl ?_
    refine aw_aload_n (pc := 31) (q := 0) dX12_bold_31 rfl ?_
    refine aw_getf (pc := 32) (v := .inr (.inr 56)) dX12_bold_32 fl_RX12_43 (by decide) rfl rfl rfl ?_
    refine aw_iconst (pc := 35) dX12_bold_35 ⟨by decide, by decide⟩ ?_
    refine aw_ialdv (pc := 36) (v := w 56 4) dX12_bold_36 rfl (by decide) (by decide) rfl ?_
    refine aw_icmp_gt (pc := 37) (tgt := 77) dX12_bold_37 (by decide) (fun hc => ?_) (fun hc => ?_)
    · rw [if_pos hc] at h
      exact aw_sel [2] rfl (w_m_bold_77 N d hd  _ _ _ _ h)
    · rw [if_neg hc] at h
      refine aw_aload_n (pc := 40) (q := 0) dX12_bold_40 rfl ?_
      refine aw_iload_n (pc := 41) (q := 1) dX12_bold_41 rfl ?_
      refine aw_iload (pc := 42) (q := 4) dX12_bold_42 rfl ?_
      obtain ⟨w1, h1, h⟩ := aw_b1s h
      refine aw_callV (pc := 44) (as := [.inl x1, .inl x4]) (st := []) (st' := []) dX12_bold_44 cv_RX12_436 (by decide) rfl rfl rfl rfl (Nat.le_of_ble_eq_true rfl) (w_m_hopes N d (by omega) _ _ _ _ h1) rfl ?_
      refine aw_iload_n (pc := 47) (q := 2) dX12_bold_47 rfl ?_
      refine aw_iconst (pc := 48) dX12_bold_48 ⟨by decide, by decide⟩ ?_
      refine aw_icmp_eq (pc := 49) (tgt := 63) dX12_bold_49 (by decide) (fun hc => ?_) (fun hc => ?_)
      · rw [if_pos hc] at h
        exact aw_sel [0, 1, 4] rfl (w_m_bold_63 N d hd  _ ih _ _ _ _ _ h)
      · rw [if_neg hc] at h
        refine aw_aload_n (pc := 52) (q := 0) dX12_bold_52 rfl ?_
        refine aw_getf (pc := 53) (v := .inl (w1 49 46)) dX12_bold_53 fl_RX12_430 (by decide) rfl rfl rfl ?_
        refine aw_iload_n (pc := 56) (q := 3) dX12_bold_56 rfl ?_
        refine aw_icmp_gt (pc := 57) (tgt := 63) dX12_bold_57 (by decide) (fun hc => ?_) (fun hc => ?_)
        · rw [if_pos hc] at h
          exact aw_sel [0, 1, 4] rfl (w_m_bold_63 N d hd  _ ih _ _ _ _ _ h)
        · rw [if_neg hc] at h
          refine aw_goto (pc := 60) (tgt := 71) dX12_bold_60 (by decide) ?_
          exact aw_sel [0, 1, 2, 3, 4] rfl (w_m_bold_71 N d hd  _ ih _ _ _ _ _ _ _ h)
def m_bold (N : Nat) (x1 : Int) (w : aw_W) : Option (Int × aw_W) :=
  aw_b2 (m_areFew N (aw_up w 49 0 0)) fun r1 w1 =>
    if r1 = 0 then
      m_bold_20 N w1
    else
      aw_b2 (m_isStriver N x1 w1) fun r2 w2 =>
        if r2 = 0 then
          m_bold_20 N w2
        else
          m_bold_29 N N x1 (-1) 0 0 w2
theorem w_m_bold_d {l : Launch} {K : aw_K} (N d : Nat) (hd : 64 ≤ d) : ∀ (x1 : Int) (w : aw_W) (y : Int) (v : aw_W), m_bold N x1 w = some (y, v) → aw_Met l K MX12_bold (d + 1) [.inr (.inr 49), .inl x1] w (some (.inl y), v) := by
  intro x1 w y v h
  unfold m_bold at h
  refine aw_enter rfl (Nat.le_of_ble_eq_true rfl) ?_
  show aw_AW l K MX12_bold (d + 1) 0 [(0, .inr (.inr 49)), (1, .inl x1)] [] w (some (.inl y), v)
  refine aw_aload_n (pc := 0) (q := 0) dX12_bold_0 rfl ?_
  refine aw_iconst (pc := 1) dX12_bold_1 ⟨by decide, by decide⟩ ?_
  refine aw_puti (pc := 2) dX12_bold_2 fp_RX12_99 (by decide) rfl rfl ?_
  refine aw_aload_n (pc := 5) (q := 0) dX12_bold_5 rfl ?_
  obtain ⟨r1, w1, h1, h⟩ := aw_b2s h
  refine aw_callV (pc := 6) (as := []) (st := []) (st' := [.inl r1]) dX12_bold_6 cv_RX12_360 (by decide) rfl rfl rfl rfl (Nat.le_of_ble_eq_true rfl) (w_m_areFew N d (by omega) _ _ _ h1) rfl ?_
  refine aw_if_eq (pc := 9) (tgt := 20) dX12_bold_9 (by decide) (fun hc => ?_) (fun hc => ?_)
  · rw [if_pos hc] at h
    exact aw_sel [] rfl (w_m_bold_20 N d hd  _ _ _ h)
  · rw [if_neg hc] at h
    refine aw_aload_n (pc := 12) (q := 0) dX12_bold_12 rfl ?_
    refine aw_iload_n (pc := 13) (q := 1) dX12_bold_13 rfl ?_
    obtain ⟨r2, w2, h2, h⟩ := aw_b2s h
    refine aw_callV (pc := 14) (as := [.inl x1]) (st := []) (st' := [.inl r2]) dX12_bold_14 cv_RX12_282 (by decide) rfl rfl rfl rfl (Nat.le_of_ble_eq_true rfl) (w_m_isStriver N d (by omega) _ _ _ _ h2) rfl ?_
    refine aw_if_ne (pc := 17) (tgt := 22) dX12_bold_17 (by decide) (fun hc => ?_) (fun hc => ?_)
    · rw [if_neg hc] at h
      refine aw_iconst (pc := 22) dX12_bold_22 ⟨by decide, by decide⟩ ?_
      refine aw_istore_n (pc := 23) (ls' := [(2, .inl (-1)), (0, .inr (.inr 49)), (1, .inl x1)]) dX12_bold_23 (by decide) rfl ?_
      refine aw_iconst (pc := 24) dX12_bold_24 ⟨by decide, by decide⟩ ?_
      refine aw_istore_n (pc := 25) (ls' := [(3, .inl 0), (2, .inl (-1)), (0, .inr (.inr 49)), (1, .inl x1)]) dX12_bold_25 (by decide) rfl ?_
      refine aw_iconst (pc := 26) dX12_bold_26 ⟨by decide, by decide⟩ ?_
      refine aw_istore (pc := 27) (ls' := [(4, .inl 0), (3, .inl 0), (2, .inl (-1)), (0, .inr (.inr 49)), (1, .inl x1)]) dX12_bold_27 (by decide) rfl ?_
      exact aw_sel [3, 4, 2, 1, 0] rfl (w_m_bold_29 N d hd  N _ _ _ _ _ _ _ h)
    · rw [if_pos hc] at h
      exact aw_sel [] rfl (w_m_bold_20 N d hd  _ _ _ h)
theorem w_m_bold {l : Launch} {K : aw_K} (N d : Nat) (hd : 65 ≤ d) : ∀ (x1 : Int) (w : aw_W) (y : Int) (v : aw_W), m_bold N x1 w = some (y, v) → aw_Met l K MX12_bold (d) [.inr (.inr 49), .inl x1] w (some (.inl y), v) := by
  obtain ⟨e, rfl⟩ : ∃ e, d = e + 1 := ⟨d - 1, by omega⟩
  exact w_m_bold_d N e (by omega)
theorem dX12_isRace_0 : decode cX12_isRace 0 = .ok (.aload_n 0, 1) := by decide +kernel
theorem dX12_isRace_1 : decode cX12_isRace 1 = .ok (.getfield 270, 3) := by decide +kernel
theorem dX12_isRace_4 : decode cX12_isRace 4 = .ok (.ifCond .le 31, 3) := by decide +kernel
theorem dX12_isRace_7 : decode cX12_isRace 7 = .ok (.iload_n 1, 1) := by decide +kernel
theorem dX12_isRace_8 : decode cX12_isRace 8 = .ok (.i2l, 1) := by decide +kernel
theorem dX12_isRace_9 : decode cX12_isRace 9 = .ok (.lconst 1, 1) := by decide +kernel
theorem dX12_isRace_10 : decode cX12_isRace 10 = .ok (.ldc2_w 308, 3) := by decide +kernel
theorem dX12_isRace_13 : decode cX12_isRace 13 = .ok (.invokestatic 227, 3) := by decide +kernel
theorem dX12_isRace_16 : decode cX12_isRace 16 = .ok (.ifCond .eq 19, 3) := by decide +kernel
theorem dX12_isRace_19 : decode cX12_isRace 19 = .ok (.iload_n 2, 1) := by decide +kernel
theorem dX12_isRace_20 : decode cX12_isRace 20 = .ok (.i2l, 1) := by decide +kernel
theorem dX12_isRace_21 : decode cX12_isRace 21 = .ok (.lconst 1, 1) := by decide +kernel
theorem dX12_isRace_22 : decode cX12_isRace 22 = .ok (.ldc2_w 308, 3) := by decide +kernel
theorem dX12_isRace_25 : decode cX12_isRace 25 = .ok (.invokestatic 227, 3) := by decide +kernel
theorem dX12_isRace_28 : decode cX12_isRace 28 = .ok (.ifCond .eq 7, 3) := by decide +kernel
theorem dX12_isRace_31 : decode cX12_isRace 31 = .ok (.iconst 1, 1) := by decide +kernel
theorem dX12_isRace_32 : decode cX12_isRace 32 = .ok (.goto 4, 3) := by decide +kernel
theorem dX12_isRace_35 : decode cX12_isRace 35 = .ok (.iconst 0, 1) := by decide +kernel
theorem dX12_isRace_36 : decode cX12_isRace 36 = .ok (.ireturn, 1) := by decide +kernel
def m_isRace_36 (N : Nat) (s0 : Int) (w : aw_W) : Option (Int × aw_W) :=
  if s0 = 0 ∨ s0 = 1 then
    some (s0, w)
  else none
theorem w_m_isRace_36 {l : Launch} {K : aw_K} (N d : Nat) (hd : 0 ≤ d) : ∀ (s0 : Int) (w : aw_W) (y : Int) (v : aw_W), m_isRace_36 N s0 w = some (y, v) → aw_AW l K MX12_isRace (d + 1) 36 [] [.inl s0] w (some (.inl y), v) := by
  intro s0 w y v h
  unfold m_isRace_36 at h
  obtain ⟨hz, h⟩ := aw_cks h
  cases h
  exact aw_zret (pc := 36) rfl hz dX12_isRace_36
def m_isRace_35 (N : Nat) (w : aw_W) : Option (Int × aw_W) :=
  m_isRace_36 N 0 w
theorem w_m_isRace_35 {l : Launch} {K : aw_K} (N d : Nat) (hd : 0 ≤ d) : ∀ (w : aw_W) (y : Int) (v : aw_W), m_isRace_35 N w = some (y, v) → aw_AW l K MX12_isRace (d + 1) 35 [] [] w (some (.inl y), v) := by
  intro w y v h
  unfold m_isRace_35 at h
  refine aw_iconst (pc := 35) dX12_isRace_35 ⟨by decide, by decide⟩ ?_
  exact aw_sel [] rfl (w_m_isRace_36 N d hd  _ _ _ _ h)
def m_isRace (N : Nat) (x1 x2 : Int) (w : aw_W) : Option (Int × aw_W) :=
  if (w 49 22) ≤ 0 then
    m_isRace_35 N w
  else
    aw_b2 (m_isIn N x1 1 99 w) fun r1 w1 =>
      if r1 = 0 then
        m_isRace_35 N w1
      else
        aw_b2 (m_isIn N x2 1 99 w1) fun r2 w2 =>
          if r2 = 0 then
            m_isRace_35 N w2
          else
            m_isRace_36 N 1 w2
theorem w_m_isRace_d {l : Launch} {K : aw_K} (N d : Nat) (hd : 0 ≤ d) : ∀ (x1 x2 : Int) (w : aw_W) (y : Int) (v : aw_W), m_isRace N x1 x2 w = some (y, v) → aw_Met l K MX12_isRace (d + 1) [.inr (.inr 49), .inl x1, .inl x2] w (some (.inl y), v) := by
  intro x1 x2 w y v h
  unfold m_isRace at h
  refine aw_enter rfl (Nat.le_of_ble_eq_true rfl) ?_
  show aw_AW l K MX12_isRace (d + 1) 0 [(0, .inr (.inr 49)), (1, .inl x1), (2, .inl x2)] [] w (some (.inl y), v)
  refine aw_aload_n (pc := 0) (q := 0) dX12_isRace_0 rfl ?_
  refine aw_getf (pc := 1) (v := .inl (w 49 22)) dX12_isRace_1 fl_RX12_270 (by decide) rfl rfl rfl ?_
  refine aw_if_le (pc := 4) (tgt := 35) dX12_isRace_4 (by decide) (fun hc => ?_) (fun hc => ?_)
  · rw [if_pos hc] at h
    exact aw_sel [] rfl (w_m_isRace_35 N d hd  _ _ _ h)
  · rw [if_neg hc] at h
    refine aw_iload_n (pc := 7) (q := 1) dX12_isRace_7 rfl ?_
    refine aw_i2l (pc := 8) dX12_isRace_8 ?_
    refine aw_lconst (pc := 9) (x := 1) dX12_isRace_9 (by decide) ⟨by decide, by decide⟩ ?_
    refine aw_ldc2 (pc := 10) (x := 99) dX12_isRace_10 cl_RX12_308 ⟨by decide, by decide⟩ ?_
    obtain ⟨r1, w1, h1, h⟩ := aw_b2s h
    refine aw_callS (pc := 13) (as := [.inr (.inl x1), .inr (.inl 1), .inr (.inl 99)]) (st := []) (st' := [.inl r1]) dX12_isRace_13 cs_RX12_227 rfl rfl (Nat.le_of_ble_eq_true rfl) (w_m_isIn N d (by omega) _ _ _ _ _ _ h1) rfl ?_
    refine aw_if_eq (pc := 16) (tgt := 35) dX12_isRace_16 (by decide) (fun hc => ?_) (fun hc => ?_)
    · rw [if_pos hc] at h
      exact aw_sel [] rfl (w_m_isRace_35 N d hd  _ _ _ h)
    · rw [if_neg hc] at h
      refine aw_iload_n (pc := 19) (q := 2) dX12_isRace_19 rfl ?_
      refine aw_i2l (pc := 20) dX12_isRace_20 ?_
      refine aw_lconst (pc := 21) (x := 1) dX12_isRace_21 (by decide) ⟨by decide, by decide⟩ ?_
      refine aw_ldc2 (pc := 22) (x := 99) dX12_isRace_22 cl_RX12_308 ⟨by decide, by decide⟩ ?_
      obtain ⟨r2, w2, h2, h⟩ := aw_b2s h
      refine aw_callS (pc := 25) (as := [.inr (.inl x2), .inr (.inl 1), .inr (.inl 99)]) (st := []) (st' := [.inl r2]) dX12_isRace_25 cs_RX12_227 rfl rfl (Nat.le_of_ble_eq_true rfl) (w_m_isIn N d (by omega) _ _ _ _ _ _ h2) rfl ?_
      refine aw_if_eq (pc := 28) (tgt := 35) dX12_isRace_28 (by decide) (fun hc => ?_) (fun hc => ?_)
      · rw [if_pos hc] at h
        exact aw_sel [] rfl (w_m_isRace_35 N d hd  _ _ _ h)
      · rw [if_neg hc] at h
        refine aw_iconst (pc := 31) dX12_isRace_31 ⟨by decide, by decide⟩ ?_
        refine aw_goto (pc := 32) (tgt := 36) dX12_isRace_32 (by decide) ?_
        exact aw_sel [] rfl (w_m_isRace_36 N d hd  _ _ _ _ h)
theorem w_m_isRace {l : Launch} {K : aw_K} (N d : Nat) (hd : 1 ≤ d) : ∀ (x1 x2 : Int) (w : aw_W) (y : Int) (v : aw_W), m_isRace N x1 x2 w = some (y, v) → aw_Met l K MX12_isRace (d) [.inr (.inr 49), .inl x1, .inl x2] w (some (.inl y), v) := by
  obtain ⟨e, rfl⟩ : ∃ e, d = e + 1 := ⟨d - 1, by omega⟩
  exact w_m_isRace_d N e (by omega)
theorem dX12_goneBy_0 : decode cX12_goneBy 0 = .ok (.aload_n 0, 1) := by decide +kernel
theorem dX12_goneBy_1 : decode cX12_goneBy 1 = .ok (.getfield 59, 3) := by decide +kernel
theorem dX12_goneBy_4 : decode cX12_goneBy 4 = .ok (.bipush 6, 2) := by decide +kernel
theorem dX12_goneBy_6 : decode cX12_goneBy 6 = .ok (.iload_n 2, 1) := by decide +kernel
theorem dX12_goneBy_7 : decode cX12_goneBy 7 = .ok (.imul, 1) := by decide +kernel
theorem dX12_goneBy_8 : decode cX12_goneBy 8 = .ok (.iload_n 1, 1) := by decide +kernel
theorem dX12_goneBy_9 : decode cX12_goneBy 9 = .ok (.iadd, 1) := by decide +kernel
theorem dX12_goneBy_10 : decode cX12_goneBy 10 = .ok (.iaload, 1) := by decide +kernel
theorem dX12_goneBy_11 : decode cX12_goneBy 11 = .ok (.ireturn, 1) := by decide +kernel
def m_goneBy (N : Nat) (x1 x2 : Int) (w : aw_W) : Option (Int × aw_W) :=
  if 0 ≤ (aw_w ((aw_w (6 * x2)) + x1)) ∧ (aw_w ((aw_w (6 * x2)) + x1)) < 600 then
    some (w 61 ((aw_w ((aw_w (6 * x2)) + x1)).toNat), w)
  else none
theorem w_m_goneBy {l : Launch} {K : aw_K} (N d : Nat) (hd : 0 ≤ d) : ∀ (x1 x2 : Int) (w : aw_W) (y : Int) (v : aw_W), m_goneBy N x1 x2 w = some (y, v) → aw_Met l K MX12_goneBy (d) [.inr (.inr 49), .inl x1, .inl x2] w (some (.inl y), v) := by
  intro x1 x2 w y v h
  unfold m_goneBy at h
  refine aw_enter rfl (Nat.le_of_ble_eq_true rfl) ?_
  show aw_AW l K MX12_goneBy (d) 0 [(0, .inr (.inr 49)), (1, .inl x1), (2, .inl x2)] [] w (some (.inl y), v)
  refine aw_aload_n (pc := 0) (q := 0) dX12_goneBy_0 rfl ?_
  refine aw_getf (pc := 1) (v := .inr (.inr 61)) dX12_goneBy_1 fl_RX12_59 (by decide) rfl rfl rfl ?_
  refine aw_bipush (pc := 4) dX12_goneBy_4 (by decide) ⟨by decide, by decide⟩ ?_
  refine aw_iload_n (pc := 6) (q := 2) dX12_goneBy_6 rfl ?_
  refine aw_imul (pc := 7) dX12_goneBy_7 ?_
  refine aw_iload_n (pc := 8) (q := 1) dX12_goneBy_8 rfl ?_
  refine aw_iadd (pc := 9) dX12_goneBy_9 ?_
  obtain ⟨hb, h⟩ := aw_cks h
  refine aw_ialdv (pc := 10) (v := w 61 ((aw_w ((aw_w (6 * x2)) + x1)).toNat)) dX12_goneBy_10 rfl hb.1 hb.2 rfl ?_
  cases h
  exact aw_iret (pc := 11) rfl dX12_goneBy_11
theorem dX12_opens_0 : decode cX12_opens 0 = .ok (.aload_n 0, 1) := by decide +kernel
theorem dX12_opens_1 : decode cX12_opens 1 = .ok (.aload_n 1, 1) := by decide +kernel
theorem dX12_opens_2 : decode cX12_opens 2 = .ok (.putfield 23, 3) := by decide +kernel
theorem dX12_opens_5 : decode cX12_opens 5 = .ok (.aload_n 0, 1) := by decide +kernel
theorem dX12_opens_6 : decode cX12_opens 6 = .ok (.iload_n 2, 1) := by decide +kernel
theorem dX12_opens_7 : decode cX12_opens 7 = .ok (.putfield 128, 3) := by decide +kernel
theorem dX12_opens_10 : decode cX12_opens 10 = .ok (.aload_n 0, 1) := by decide +kernel
theorem dX12_opens_11 : decode cX12_opens 11 = .ok (.iload_n 3, 1) := by decide +kernel
theorem dX12_opens_12 : decode cX12_opens 12 = .ok (.putfield 125, 3) := by decide +kernel
theorem dX12_opens_15 : decode cX12_opens 15 = .ok (.aload_n 0, 1) := by decide +kernel
theorem dX12_opens_16 : decode cX12_opens 16 = .ok (.iconst 0, 1) := by decide +kernel
theorem dX12_opens_17 : decode cX12_opens 17 = .ok (.putfield 122, 3) := by decide +kernel
theorem dX12_opens_20 : decode cX12_opens 20 = .ok (.aload_n 0, 1) := by decide +kernel
theorem dX12_opens_21 : decode cX12_opens 21 = .ok (.iconst (-1), 1) := by decide +kernel
theorem dX12_opens_22 : decode cX12_opens 22 = .ok (.putfield 131, 3) := by decide +kernel
theorem dX12_opens_25 : decode cX12_opens 25 = .ok (.return_, 1) := by decide +kernel
def m_opens (N : Nat) (x2 x3 : Int) (w : aw_W) : Option (aw_W) :=
  some (aw_up (aw_up (aw_up (aw_up (aw_up w 49 5 51) 49 8 x2) 49 9 x3) 49 10 0) 49 11 (-1))
theorem w_m_opens {l : Launch} {K : aw_K} (N d : Nat) (hd : 0 ≤ d) : ∀ (x2 x3 : Int) (w v : aw_W), m_opens N x2 x3 w = some v → aw_Met l K MX12_opens (d) [.inr (.inr 49), .inr (.inr 51), .inl x2, .inl x3] w (none, v) := by
  intro x2 x3 w v h
  unfold m_opens at h
  refine aw_enter rfl (Nat.le_of_ble_eq_true rfl) ?_
  show aw_AW l K MX12_opens (d) 0 [(0, .inr (.inr 49)), (1, .inr (.inr 51)), (2, .inl x2), (3, .inl x3)] [] w (none, v)
  refine aw_aload_n (pc := 0) (q := 0) dX12_opens_0 rfl ?_
  refine aw_aload_n (pc := 1) (q := 1) dX12_opens_1 rfl ?_
  refine aw_putr (pc := 2) dX12_opens_2 fp_RX12_23 (by decide) rfl rfl ⟨by decide, by decide⟩ ?_
  refine aw_aload_n (pc := 5) (q := 0) dX12_opens_5 rfl ?_
  refine aw_iload_n (pc := 6) (q := 2) dX12_opens_6 rfl ?_
  refine aw_puti (pc := 7) dX12_opens_7 fp_RX12_128 (by decide) rfl rfl ?_
  refine aw_aload_n (pc := 10) (q := 0) dX12_opens_10 rfl ?_
  refine aw_iload_n (pc := 11) (q := 3) dX12_opens_11 rfl ?_
  refine aw_puti (pc := 12) dX12_opens_12 fp_RX12_125 (by decide) rfl rfl ?_
  refine aw_aload_n (pc := 15) (q := 0) dX12_opens_15 rfl ?_
  refine aw_iconst (pc := 16) dX12_opens_16 ⟨by decide, by decide⟩ ?_
  refine aw_puti (pc := 17) dX12_opens_17 fp_RX12_122 (by decide) rfl rfl ?_
  refine aw_aload_n (pc := 20) (q := 0) dX12_opens_20 rfl ?_
  refine aw_iconst (pc := 21) dX12_opens_21 ⟨by decide, by decide⟩ ?_
  refine aw_puti (pc := 22) dX12_opens_22 fp_RX12_131 (by decide) rfl rfl ?_
  cases h
  exact aw_vret (pc := 25) rfl dX12_opens_25
theorem dX12_look_0 : decode cX12_look 0 = .ok (.aload_n 0, 1) := by decide +kernel
theorem dX12_look_1 : decode cX12_look 1 = .ok (.getfield 122, 3) := by decide +kernel
theorem dX12_look_4 : decode cX12_look 4 = .ok (.aload_n 0, 1) := by decide +kernel
theorem dX12_look_5 : decode cX12_look 5 = .ok (.getfield 125, 3) := by decide +kernel
theorem dX12_look_8 : decode cX12_look 8 = .ok (.if_icmp .ge 35, 3) := by decide +kernel
theorem dX12_look_11 : decode cX12_look 11 = .ok (.aload_n 0, 1) := by decide +kernel
theorem dX12_look_12 : decode cX12_look 12 = .ok (.getfield 23, 3) := by decide +kernel
theorem dX12_look_15 : decode cX12_look 15 = .ok (.aload_n 0, 1) := by decide +kernel
theorem dX12_look_16 : decode cX12_look 16 = .ok (.getfield 128, 3) := by decide +kernel
theorem dX12_look_19 : decode cX12_look 19 = .ok (.aload_n 0, 1) := by decide +kernel
theorem dX12_look_20 : decode cX12_look 20 = .ok (.getfield 122, 3) := by decide +kernel
theorem dX12_look_23 : decode cX12_look 23 = .ok (.iadd, 1) := by decide +kernel
theorem dX12_look_24 : decode cX12_look 24 = .ok (.baload, 1) := by decide +kernel
theorem dX12_look_25 : decode cX12_look 25 = .ok (.bipush 32, 2) := by decide +kernel
theorem dX12_look_27 : decode cX12_look 27 = .ok (.if_icmp .ne 16, 3) := by decide +kernel
theorem dX12_look_30 : decode cX12_look 30 = .ok (.aload_n 0, 1) := by decide +kernel
theorem dX12_look_31 : decode cX12_look 31 = .ok (.dup, 1) := by decide +kernel
theorem dX12_look_32 : decode cX12_look 32 = .ok (.getfield 122, 3) := by decide +kernel
theorem dX12_look_35 : decode cX12_look 35 = .ok (.iconst 1, 1) := by decide +kernel
theorem dX12_look_36 : decode cX12_look 36 = .ok (.iadd, 1) := by decide +kernel
theorem dX12_look_37 : decode cX12_look 37 = .ok (.putfield 122, 3) := by decide +kernel
theorem dX12_look_40 : decode cX12_look 40 = .ok (.goto (-40), 3) := by decide +kernel
theorem dX12_look_43 : decode cX12_look 43 = .ok (.aload_n 0, 1) := by decide +kernel
theorem dX12_look_44 : decode cX12_look 44 = .ok (.getfield 122, 3) := by decide +kernel
theorem dX12_look_47 : decode cX12_look 47 = .ok (.aload_n 0, 1) := by decide +kernel
theorem dX12_look_48 : decode cX12_look 48 = .ok (.getfield 125, 3) := by decide +kernel
theorem dX12_look_51 : decode cX12_look 51 = .ok (.if_icmp .ge 24, 3) := by decide +kernel
theorem dX12_look_54 : decode cX12_look 54 = .ok (.aload_n 0, 1) := by decide +kernel
theorem dX12_look_55 : decode cX12_look 55 = .ok (.getfield 23, 3) := by decide +kernel
theorem dX12_look_58 : decode cX12_look 58 = .ok (.aload_n 0, 1) := by decide +kernel
theorem dX12_look_59 : decode cX12_look 59 = .ok (.getfield 128, 3) := by decide +kernel
theorem dX12_look_62 : decode cX12_look 62 = .ok (.aload_n 0, 1) := by decide +kernel
theorem dX12_look_63 : decode cX12_look 63 = .ok (.getfield 122, 3) := by decide +kernel
theorem dX12_look_66 : decode cX12_look 66 = .ok (.iadd, 1) := by decide +kernel
theorem dX12_look_67 : decode cX12_look 67 = .ok (.baload, 1) := by decide +kernel
theorem dX12_look_68 : decode cX12_look 68 = .ok (.sipush 255, 3) := by decide +kernel
theorem dX12_look_71 : decode cX12_look 71 = .ok (.iand, 1) := by decide +kernel
theorem dX12_look_72 : decode cX12_look 72 = .ok (.goto 4, 3) := by decide +kernel
theorem dX12_look_75 : decode cX12_look 75 = .ok (.iconst (-1), 1) := by decide +kernel
theorem dX12_look_76 : decode cX12_look 76 = .ok (.ireturn, 1) := by decide +kernel
def m_look_76 (N : Nat) (s0 : Int) (w : aw_W) : Option (Int × aw_W) :=
  some (s0, w)
theorem w_m_look_76 {l : Launch} {K : aw_K} (N d : Nat) : ∀ (s0 : Int) (w : aw_W) (y : Int) (v : aw_W), m_look_76 N s0 w = some (y, v) → aw_AW l K MX12_look (d) 76 [] [.inl s0] w (some (.inl y), v) := by
  intro s0 w y v h
  unfold m_look_76 at h
  cases h
  exact aw_iret (pc := 76) rfl dX12_look_76
def m_look_43 (N : Nat) (w : aw_W) : Option (Int × aw_W) :=
  if (w 49 9) ≤ (w 49 10) then
    m_look_76 N (-1) w
  else
    if aw_bA ((w 49 5).toNat) = true ∧ 0 ≤ (aw_w ((w 49 8) + (w 49 10))) ∧ (aw_w ((w 49 8) + (w 49 10))) < aw_ln ((w 49 5).toNat) then
      m_look_76 N (aw_and (w ((w 49 5).toNat) ((aw_w ((w 49 8) + (w 49 10))).toNat)) 255) w
    else none
theorem w_m_look_43 {l : Launch} {K : aw_K} (N d : Nat) : ∀ (w : aw_W) (y : Int) (v : aw_W), m_look_43 N w = some (y, v) → aw_AW l K MX12_look (d) 43 [(0, .inr (.inr 49))] [] w (some (.inl y), v) := by
  intro w y v h
  unfold m_look_43 at h
  refine aw_aload_n (pc := 43) (q := 0) dX12_look_43 rfl ?_
  refine aw_getf (pc := 44) (v := .inl (w 49 10)) dX12_look_44 fl_RX12_122 (by decide) rfl rfl rfl ?_
  refine aw_aload_n (pc := 47) (q := 0) dX12_look_47 rfl ?_
  refine aw_getf (pc := 48) (v := .inl (w 49 9)) dX12_look_48 fl_RX12_125 (by decide) rfl rfl rfl ?_
  refine aw_icmp_ge (pc := 51) (tgt := 75) dX12_look_51 (by decide) (fun hc => ?_) (fun hc => ?_)
  · rw [if_pos hc] at h
    refine aw_iconst (pc := 75) dX12_look_75 ⟨by decide, by decide⟩ ?_
    exact aw_sel [] rfl (w_m_look_76 N d  _ _ _ _ h)
  · rw [if_neg hc] at h
    refine aw_aload_n (pc := 54) (q := 0) dX12_look_54 rfl ?_
    refine aw_getf (pc := 55) (v := .inr (.inr ((w 49 5).toNat))) dX12_look_55 fl_RX12_23 (by decide) rfl rfl rfl ?_
    refine aw_aload_n (pc := 58) (q := 0) dX12_look_58 rfl ?_
    refine aw_getf (pc := 59) (v := .inl (w 49 8)) dX12_look_59 fl_RX12_128 (by decide) rfl rfl rfl ?_
    refine aw_aload_n (pc := 62) (q := 0) dX12_look_62 rfl ?_
    refine aw_getf (pc := 63) (v := .inl (w 49 10)) dX12_look_63 fl_RX12_122 (by decide) rfl rfl rfl ?_
    refine aw_iadd (pc := 66) dX12_look_66 ?_
    obtain ⟨hb, h⟩ := aw_cks h
    refine aw_baldx (pc := 67) (v := w ((w 49 5).toNat) ((aw_w ((w 49 8) + (w 49 10))).toNat)) dX12_look_67 hb.1 hb.2.1 hb.2.2 rfl ?_
    refine aw_sipush (pc := 68) dX12_look_68 (by decide) ⟨by decide, by decide⟩ ?_
    refine aw_iand (pc := 71) dX12_look_71 ?_
    refine aw_goto (pc := 72) (tgt := 76) dX12_look_72 (by decide) ?_
    exact aw_sel [] rfl (w_m_look_76 N d  _ _ _ _ h)
def m_look_0 (N : Nat) : Nat → aw_W → Option (Int × aw_W)
  | 0, _ => none
  | n + 1, w =>
    if (w 49 9) ≤ (w 49 10) then
      m_look_43 N w
    else
      if aw_bA ((w 49 5).toNat) = true ∧ 0 ≤ (aw_w ((w 49 8) + (w 49 10))) ∧ (aw_w ((w 49 8) + (w 49 10))) < aw_ln ((w 49 5).toNat) then
        if (w ((w 49 5).toNat) ((aw_w ((w 49 8) + (w 49 10))).toNat)) = 32 then
          m_look_0 N n (aw_up w 49 10 (aw_w ((w 49 10) + 1)))
        else
          m_look_43 N w
      else none
theorem w_m_look_0 {l : Launch} {K : aw_K} (N d : Nat) : ∀ (n : Nat) (w : aw_W) (y : Int) (v : aw_W), m_look_0 N n w = some (y, v) → aw_AW l K MX12_look (d) 0 [(0, .inr (.inr 49))] [] w (some (.inl y), v) := by
  intro n
  induction n with
  | zero => intro w y v h; rw [m_look_0] at h; cases h
  | succ n ih =>
    intro w y v h
    rw [m_look_0] at h
    refine aw_aload_n (pc := 0) (q := 0) dX12_look_0 rfl ?_
    refine aw_getf (pc := 1) (v := .inl (w 49 10)) dX12_look_1 fl_RX12_122 (by decide) rfl rfl rfl ?_
    refine aw_aload_n (pc := 4) (q := 0) dX12_look_4 rfl ?_
    refine aw_getf (pc := 5) (v := .inl (w 49 9)) dX12_look_5 fl_RX12_125 (by decide) rfl rfl rfl ?_
    refine aw_icmp_ge (pc := 8) (tgt := 43) dX12_look_8 (by decide) (fun hc => ?_) (fun hc => ?_)
    · rw [if_pos hc] at h
      exact aw_sel [0] rfl (w_m_look_43 N d  _ _ _ h)
    · rw [if_neg hc] at h
      refine aw_aload_n (pc := 11) (q := 0) dX12_look_11 rfl ?_
      refine aw_getf (pc := 12) (v := .inr (.inr ((w 49 5).toNat))) dX12_look_12 fl_RX12_23 (by decide) rfl rfl rfl ?_
      refine aw_aload_n (pc := 15) (q := 0) dX12_look_15 rfl ?_
      refine aw_getf (pc := 16) (v := .inl (w 49 8)) dX12_look_16 fl_RX12_128 (by decide) rfl rfl rfl ?_
      refine aw_aload_n (pc := 19) (q := 0) dX12_look_19 rfl ?_
      refine aw_getf (pc := 20) (v := .inl (w 49 10)) dX12_look_20 fl_RX12_122 (by decide) rfl rfl rfl ?_
      refine aw_iadd (pc := 23) dX12_look_23 ?_
      obtain ⟨hb, h⟩ := aw_cks h
      refine aw_baldx (pc := 24) (v := w ((w 49 5).toNat) ((aw_w ((w 49 8) + (w 49 10))).toNat)) dX12_look_24 hb.1 hb.2.1 hb.2.2 rfl ?_
      refine aw_bipush (pc := 25) dX12_look_25 (by decide) ⟨by decide, by decide⟩ ?_
      refine aw_icmp_ne (pc := 27) (tgt := 43) dX12_look_27 (by decide) (fun hc => ?_) (fun hc => ?_)
      · rw [if_neg hc] at h
        exact aw_sel [0] rfl (w_m_look_43 N d  _ _ _ h)
      · rw [if_pos hc] at h
        refine aw_aload_n (pc := 30) (q := 0) dX12_look_30 rfl ?_
        refine aw_dup (pc := 31) dX12_look_31 rfl ?_
        refine aw_getf (pc := 32) (v := .inl (w 49 10)) dX12_look_32 fl_RX12_122 (by decide) rfl rfl rfl ?_
        refine aw_iconst (pc := 35) dX12_look_35 ⟨by decide, by decide⟩ ?_
        refine aw_iadd (pc := 36) dX12_look_36 ?_
        refine aw_puti (pc := 37) dX12_look_37 fp_RX12_122 (by decide) rfl rfl ?_
        refine aw_goto (pc := 40) (tgt := 0) dX12_look_40 (by decide) ?_
        exact aw_sel [0] rfl (ih _ _ _ h)
def m_look (N : Nat) (w : aw_W) : Option (Int × aw_W) :=
  m_look_0 N N w
theorem w_m_look {l : Launch} {K : aw_K} (N d : Nat) (hd : 0 ≤ d) : ∀ (w : aw_W) (y : Int) (v : aw_W), m_look N w = some (y, v) → aw_Met l K MX12_look (d) [.inr (.inr 49)] w (some (.inl y), v) := by
  intro w y v h
  unfold m_look at h
  refine aw_enter rfl (Nat.le_of_ble_eq_true rfl) ?_
  show aw_AW l K MX12_look (d) 0 [(0, .inr (.inr 49))] [] w (some (.inl y), v)
  exact aw_sel [0] rfl (w_m_look_0 N d  N _ _ _ h)
theorem dX12_isAmong_0 : decode cX12_isAmong 0 = .ok (.iconst 0, 1) := by decide +kernel
theorem dX12_isAmong_1 : decode cX12_isAmong 1 = .ok (.istore_n 2, 1) := by decide +kernel
theorem dX12_isAmong_2 : decode cX12_isAmong 2 = .ok (.iload_n 2, 1) := by decide +kernel
theorem dX12_isAmong_3 : decode cX12_isAmong 3 = .ok (.aload_n 0, 1) := by decide +kernel
theorem dX12_isAmong_4 : decode cX12_isAmong 4 = .ok (.invokevirtual 102, 3) := by decide +kernel
theorem dX12_isAmong_7 : decode cX12_isAmong 7 = .ok (.if_icmp .ge 20, 3) := by decide +kernel
theorem dX12_isAmong_10 : decode cX12_isAmong 10 = .ok (.aload_n 0, 1) := by decide +kernel
theorem dX12_isAmong_11 : decode cX12_isAmong 11 = .ok (.iload_n 2, 1) := by decide +kernel
theorem dX12_isAmong_12 : decode cX12_isAmong 12 = .ok (.invokevirtual 108, 3) := by decide +kernel
theorem dX12_isAmong_15 : decode cX12_isAmong 15 = .ok (.iload_n 1, 1) := by decide +kernel
theorem dX12_isAmong_16 : decode cX12_isAmong 16 = .ok (.if_icmp .ne 5, 3) := by decide +kernel
theorem dX12_isAmong_19 : decode cX12_isAmong 19 = .ok (.iconst 1, 1) := by decide +kernel
theorem dX12_isAmong_20 : decode cX12_isAmong 20 = .ok (.ireturn, 1) := by decide +kernel
theorem dX12_isAmong_21 : decode cX12_isAmong 21 = .ok (.iinc 2 1, 3) := by decide +kernel
theorem dX12_isAmong_24 : decode cX12_isAmong 24 = .ok (.goto (-22), 3) := by decide +kernel
theorem dX12_isAmong_27 : decode cX12_isAmong 27 = .ok (.iconst 0, 1) := by decide +kernel
theorem dX12_isAmong_28 : decode cX12_isAmong 28 = .ok (.ireturn, 1) := by decide +kernel
def m_isAmong_27 (N : Nat) (w : aw_W) : Option (Int × aw_W) :=
  some (0, w)
theorem w_m_isAmong_27 {l : Launch} {K : aw_K} (N d : Nat) (hd : 3 ≤ d) : ∀ (w : aw_W) (y : Int) (v : aw_W), m_isAmong_27 N w = some (y, v) → aw_AW l K MX12_isAmong (d + 1) 27 [] [] w (some (.inl y), v) := by
  intro w y v h
  unfold m_isAmong_27 at h
  refine aw_iconst (pc := 27) dX12_isAmong_27 ⟨by decide, by decide⟩ ?_
  cases h
  exact aw_zret (pc := 28) rfl (by decide) dX12_isAmong_28
def m_isAmong_19 (N : Nat) (w : aw_W) : Option (Int × aw_W) :=
  some (1, w)
theorem w_m_isAmong_19 {l : Launch} {K : aw_K} (N d : Nat) (hd : 3 ≤ d) : ∀ (w : aw_W) (y : Int) (v : aw_W), m_isAmong_19 N w = some (y, v) → aw_AW l K MX12_isAmong (d + 1) 19 [] [] w (some (.inl y), v) := by
  intro w y v h
  unfold m_isAmong_19 at h
  refine aw_iconst (pc := 19) dX12_isAmong_19 ⟨by decide, by decide⟩ ?_
  cases h
  exact aw_zret (pc := 20) rfl (by decide) dX12_isAmong_20
def m_isAmong_2 (N : Nat) : Nat → Int → Int → aw_W → Option (Int × aw_W)
  | 0, _, _, _ => none
  | n + 1, x1, x2, w =>
    aw_b2 (j_Str_length N w) fun r1 w1 =>
      if r1 ≤ x2 then
        m_isAmong_27 N w1
      else
        aw_b2 (j_Str_charAt N x2 w1) fun r2 w2 =>
          if r2 = x1 then
            m_isAmong_19 N w2
          else
            m_isAmong_2 N n x1 (aw_w (x2 + 1)) w2
theorem w_m_isAmong_2 {l : Launch} {K : aw_K} (N d : Nat) (hd : 3 ≤ d) : ∀ (n : Nat) (x1 x2 : Int) (w : aw_W) (y : Int) (v : aw_W), m_isAmong_2 N n x1 x2 w = some (y, v) → aw_AW l K MX12_isAmong (d + 1) 2 [(0, .inr (.inr 220)), (1, .inl x1), (2, .inl x2)] [] w (some (.inl y), v) := by
  intro n
  induction n with
  | zero => intro x1 x2 w y v h; rw [m_isAmong_2] at h; cases h
  | succ n ih =>
    intro x1 x2 w y v h
    rw [m_isAmong_2] at h
    refine aw_iload_n (pc := 2) (q := 2) dX12_isAmong_2 rfl ?_
    refine aw_aload_n (pc := 3) (q := 0) dX12_isAmong_3 rfl ?_
    obtain ⟨r1, w1, h1, h⟩ := aw_b2s h
    refine aw_callT (pc := 4) (k := 0) (as := []) (st := [.inl x2]) (st' := [.inl r1, .inl x2]) dX12_isAmong_4 cv_RX12_102 (by decide) rfl rfl rfl (Nat.le_of_ble_eq_true rfl) (w_j_Str_length N d (by omega) _ _ _ h1) rfl ?_
    refine aw_icmp_ge (pc := 7) (tgt := 27) dX12_isAmong_7 (by decide) (fun hc => ?_) (fun hc => ?_)
    · rw [if_pos hc] at h
      exact aw_sel [] rfl (w_m_isAmong_27 N d hd  _ _ _ h)
    · rw [if_neg hc] at h
      refine aw_aload_n (pc := 10) (q := 0) dX12_isAmong_10 rfl ?_
      refine aw_iload_n (pc := 11) (q := 2) dX12_isAmong_11 rfl ?_
      obtain ⟨r2, w2, h2, h⟩ := aw_b2s h
      refine aw_callT (pc := 12) (k := 0) (as := [.inl x2]) (st := []) (st' := [.inl r2]) dX12_isAmong_12 cv_RX12_108 (by decide) rfl rfl rfl (Nat.le_of_ble_eq_true rfl) (w_j_Str_charAt N d (by omega) _ _ _ _ h2) rfl ?_
      refine aw_iload_n (pc := 15) (q := 1) dX12_isAmong_15 rfl ?_
      refine aw_icmp_ne (pc := 16) (tgt := 21) dX12_isAmong_16 (by decide) (fun hc => ?_) (fun hc => ?_)
      · rw [if_neg hc] at h
        refine aw_iinc (pc := 21) (q := 2) (ls' := [(2, .inl (aw_w (x2 + 1))), (0, .inr (.inr 220)), (1, .inl x1)]) dX12_isAmong_21 rfl (by decide) rfl ?_
        refine aw_goto (pc := 24) (tgt := 2) dX12_isAmong_24 (by decide) ?_
        exact aw_sel [1, 2, 0] rfl (ih _ _ _ _ _ h)
      · rw [if_pos hc] at h
        exact aw_sel [] rfl (w_m_isAmong_19 N d hd  _ _ _ h)
def m_isAmong (N : Nat) (x1 : Int) (w : aw_W) : Option (Int × aw_W) :=
  m_isAmong_2 N N x1 0 w
theorem w_m_isAmong_d {l : Launch} {K : aw_K} (N d : Nat) (hd : 3 ≤ d) : ∀ (x1 : Int) (w : aw_W) (y : Int) (v : aw_W), m_isAmong N x1 w = some (y, v) → aw_Met l K MX12_isAmong (d + 1) [.inr (.inr 220), .inl x1] w (some (.inl y), v) := by
  intro x1 w y v h
  unfold m_isAmong at h
  refine aw_enter rfl (Nat.le_of_ble_eq_true rfl) ?_
  show aw_AW l K MX12_isAmong (d + 1) 0 [(0, .inr (.inr 220)), (1, .inl x1)] [] w (some (.inl y), v)
  refine aw_iconst (pc := 0) dX12_isAmong_0 ⟨by decide, by decide⟩ ?_
  refine aw_istore_n (pc := 1) (ls' := [(2, .inl 0), (0, .inr (.inr 220)), (1, .inl x1)]) dX12_isAmong_1 (by decide) rfl ?_
  exact aw_sel [1, 2, 0] rfl (w_m_isAmong_2 N d hd  N _ _ _ _ _ h)
theorem w_m_isAmong {l : Launch} {K : aw_K} (N d : Nat) (hd : 4 ≤ d) : ∀ (x1 : Int) (w : aw_W) (y : Int) (v : aw_W), m_isAmong N x1 w = some (y, v) → aw_Met l K MX12_isAmong (d) [.inr (.inr 220), .inl x1] w (some (.inl y), v) := by
  obtain ⟨e, rfl⟩ : ∃ e, d = e + 1 := ⟨d - 1, by omega⟩
  exact w_m_isAmong_d N e (by omega)
theorem dX12_fails_0 : decode cX12_fails 0 = .ok (.aload_n 0, 1) := by decide +kernel
theorem dX12_fails_1 : decode cX12_fails 1 = .ok (.getfield 131, 3) := by decide +kernel
theorem dX12_fails_4 : decode cX12_fails 4 = .ok (.iconst (-1), 1) := by decide +kernel
theorem dX12_fails_5 : decode cX12_fails 5 = .ok (.if_icmp .ne 11, 3) := by decide +kernel
theorem dX12_fails_8 : decode cX12_fails 8 = .ok (.aload_n 0, 1) := by decide +kernel
theorem dX12_fails_9 : decode cX12_fails 9 = .ok (.aload_n 0, 1) := by decide +kernel
theorem dX12_fails_10 : decode cX12_fails 10 = .ok (.getfield 122, 3) := by decide +kernel
theorem dX12_fails_13 : decode cX12_fails 13 = .ok (.putfield 131, 3) := by decide +kernel
theorem dX12_fails_16 : decode cX12_fails 16 = .ok (.iconst 0, 1) := by decide +kernel
theorem dX12_fails_17 : decode cX12_fails 17 = .ok (.ireturn, 1) := by decide +kernel
def m_fails_16 (N : Nat) (w : aw_W) : Option (Int × aw_W) :=
  some (0, w)
theorem w_m_fails_16 {l : Launch} {K : aw_K} (N d : Nat) : ∀ (w : aw_W) (y : Int) (v : aw_W), m_fails_16 N w = some (y, v) → aw_AW l K MX12_fails (d) 16 [] [] w (some (.inl y), v) := by
  intro w y v h
  unfold m_fails_16 at h
  refine aw_iconst (pc := 16) dX12_fails_16 ⟨by decide, by decide⟩ ?_
  cases h
  exact aw_zret (pc := 17) rfl (by decide) dX12_fails_17
def m_fails (N : Nat) (w : aw_W) : Option (Int × aw_W) :=
  if (w 49 11) = (-1) then
    m_fails_16 N (aw_up w 49 11 (w 49 10))
  else
    m_fails_16 N w
theorem w_m_fails {l : Launch} {K : aw_K} (N d : Nat) (hd : 0 ≤ d) : ∀ (w : aw_W) (y : Int) (v : aw_W), m_fails N w = some (y, v) → aw_Met l K MX12_fails (d) [.inr (.inr 49)] w (some (.inl y), v) := by
  intro w y v h
  unfold m_fails at h
  refine aw_enter rfl (Nat.le_of_ble_eq_true rfl) ?_
  show aw_AW l K MX12_fails (d) 0 [(0, .inr (.inr 49))] [] w (some (.inl y), v)
  refine aw_aload_n (pc := 0) (q := 0) dX12_fails_0 rfl ?_
  refine aw_getf (pc := 1) (v := .inl (w 49 11)) dX12_fails_1 fl_RX12_131 (by decide) rfl rfl rfl ?_
  refine aw_iconst (pc := 4) dX12_fails_4 ⟨by decide, by decide⟩ ?_
  refine aw_icmp_ne (pc := 5) (tgt := 16) dX12_fails_5 (by decide) (fun hc => ?_) (fun hc => ?_)
  · rw [if_neg hc] at h
    exact aw_sel [] rfl (w_m_fails_16 N d  _ _ _ h)
  · rw [if_pos hc] at h
    refine aw_aload_n (pc := 8) (q := 0) dX12_fails_8 rfl ?_
    refine aw_aload_n (pc := 9) (q := 0) dX12_fails_9 rfl ?_
    refine aw_getf (pc := 10) (v := .inl (w 49 10)) dX12_fails_10 fl_RX12_122 (by decide) rfl rfl rfl ?_
    refine aw_puti (pc := 13) dX12_fails_13 fp_RX12_131 (by decide) rfl rfl ?_
    exact aw_sel [] rfl (w_m_fails_16 N d  _ _ _ h)
theorem dX12_takes_0 : decode cX12_takes 0 = .ok (.aload_n 0, 1) := by decide +kernel
theorem dX12_takes_1 : decode cX12_takes 1 = .ok (.getfield 131, 3) := by decide +kernel
theorem dX12_takes_4 : decode cX12_takes 4 = .ok (.iconst (-1), 1) := by decide +kernel
theorem dX12_takes_5 : decode cX12_takes 5 = .ok (.if_icmp .ne 11, 3) := by decide +kernel
theorem dX12_takes_8 : decode cX12_takes 8 = .ok (.aload_n 0, 1) := by decide +kernel
theorem dX12_takes_9 : decode cX12_takes 9 = .ok (.invokevirtual 141, 3) := by decide +kernel
theorem dX12_takes_12 : decode cX12_takes 12 = .ok (.iload_n 1, 1) := by decide +kernel
theorem dX12_takes_13 : decode cX12_takes 13 = .ok (.if_icmp .eq 8, 3) := by decide +kernel
theorem dX12_takes_16 : decode cX12_takes 16 = .ok (.aload_n 0, 1) := by decide +kernel
theorem dX12_takes_17 : decode cX12_takes 17 = .ok (.invokevirtual 137, 3) := by decide +kernel
theorem dX12_takes_20 : decode cX12_takes 20 = .ok (.ireturn, 1) := by decide +kernel
theorem dX12_takes_21 : decode cX12_takes 21 = .ok (.aload_n 0, 1) := by decide +kernel
theorem dX12_takes_22 : decode cX12_takes 22 = .ok (.dup, 1) := by decide +kernel
theorem dX12_takes_23 : decode cX12_takes 23 = .ok (.getfield 122, 3) := by decide +kernel
theorem dX12_takes_26 : decode cX12_takes 26 = .ok (.iconst 1, 1) := by decide +kernel
theorem dX12_takes_27 : decode cX12_takes 27 = .ok (.iadd, 1) := by decide +kernel
theorem dX12_takes_28 : decode cX12_takes 28 = .ok (.putfield 122, 3) := by decide +kernel
theorem dX12_takes_31 : decode cX12_takes 31 = .ok (.iconst 1, 1) := by decide +kernel
theorem dX12_takes_32 : decode cX12_takes 32 = .ok (.ireturn, 1) := by decide +kernel
def m_takes_16 (N : Nat) (w : aw_W) : Option (Int × aw_W) :=
  aw_b2 (m_fails N w) fun r1 w1 =>
    if r1 = 0 ∨ r1 = 1 then
      some (r1, w1)
    else none
theorem w_m_takes_16 {l : Launch} {K : aw_K} (N d : Nat) (hd : 0 ≤ d) : ∀ (w : aw_W) (y : Int) (v : aw_W), m_takes_16 N w = some (y, v) → aw_AW l K MX12_takes (d + 1) 16 [(0, .inr (.inr 49))] [] w (some (.inl y), v) := by
  intro w y v h
  unfold m_takes_16 at h
  refine aw_aload_n (pc := 16) (q := 0) dX12_takes_16 rfl ?_
  obtain ⟨r1, w1, h1, h⟩ := aw_b2s h
  refine aw_callV (pc := 17) (as := []) (st := []) (st' := [.inl r1]) dX12_takes_17 cv_RX12_137 (by decide) rfl rfl rfl rfl (Nat.le_of_ble_eq_true rfl) (w_m_fails N d (by omega) _ _ _ h1) rfl ?_
  obtain ⟨hz, h⟩ := aw_cks h
  cases h
  exact aw_zret (pc := 20) rfl hz dX12_takes_20
def m_takes (N : Nat) (x1 : Int) (w : aw_W) : Option (Int × aw_W) :=
  if (w 49 11) = (-1) then
    aw_b2 (m_look N w) fun r1 w1 =>
      if r1 = x1 then
        some (1, (aw_up w1 49 10 (aw_w ((w1 49 10) + 1))))
      else
        m_takes_16 N w1
  else
    m_takes_16 N w
theorem w_m_takes_d {l : Launch} {K : aw_K} (N d : Nat) (hd : 0 ≤ d) : ∀ (x1 : Int) (w : aw_W) (y : Int) (v : aw_W), m_takes N x1 w = some (y, v) → aw_Met l K MX12_takes (d + 1) [.inr (.inr 49), .inl x1] w (some (.inl y), v) := by
  intro x1 w y v h
  unfold m_takes at h
  refine aw_enter rfl (Nat.le_of_ble_eq_true rfl) ?_
  show aw_AW l K MX12_takes (d + 1) 0 [(0, .inr (.inr 49)), (1, .inl x1)] [] w (some (.inl y), v)
  refine aw_aload_n (pc := 0) (q := 0) dX12_takes_0 rfl ?_
  refine aw_getf (pc := 1) (v := .inl (w 49 11)) dX12_takes_1 fl_RX12_131 (by decide) rfl rfl rfl ?_
  refine aw_iconst (pc := 4) dX12_takes_4 ⟨by decide, by decide⟩ ?_
  refine aw_icmp_ne (pc := 5) (tgt := 16) dX12_takes_5 (by decide) (fun hc => ?_) (fun hc => ?_)
  · rw [if_neg hc] at h
    exact aw_sel [0] rfl (w_m_takes_16 N d hd  _ _ _ h)
  · rw [if_pos hc] at h
    refine aw_aload_n (pc := 8) (q := 0) dX12_takes_8 rfl ?_
    obtain ⟨r1, w1, h1, h⟩ := aw_b2s h
    refine aw_callV (pc := 9) (as := []) (st := []) (st' := [.inl r1]) dX12_takes_9 cv_RX12_141 (by decide) rfl rfl rfl rfl (Nat.le_of_ble_eq_true rfl) (w_m_look N d (by omega) _ _ _ h1) rfl ?_
    refine aw_iload_n (pc := 12) (q := 1) dX12_takes_12 rfl ?_
    refine aw_icmp_eq (pc := 13) (tgt := 21) dX12_takes_13 (by decide) (fun hc => ?_) (fun hc => ?_)
    · rw [if_pos hc] at h
      refine aw_aload_n (pc := 21) (q := 0) dX12_takes_21 rfl ?_
      refine aw_dup (pc := 22) dX12_takes_22 rfl ?_
      refine aw_getf (pc := 23) (v := .inl (w1 49 10)) dX12_takes_23 fl_RX12_122 (by decide) rfl rfl rfl ?_
      refine aw_iconst (pc := 26) dX12_takes_26 ⟨by decide, by decide⟩ ?_
      refine aw_iadd (pc := 27) dX12_takes_27 ?_
      refine aw_puti (pc := 28) dX12_takes_28 fp_RX12_122 (by decide) rfl rfl ?_
      refine aw_iconst (pc := 31) dX12_takes_31 ⟨by decide, by decide⟩ ?_
      cases h
      exact aw_zret (pc := 32) rfl (by decide) dX12_takes_32
    · rw [if_neg hc] at h
      exact aw_sel [0] rfl (w_m_takes_16 N d hd  _ _ _ h)
theorem w_m_takes {l : Launch} {K : aw_K} (N d : Nat) (hd : 1 ≤ d) : ∀ (x1 : Int) (w : aw_W) (y : Int) (v : aw_W), m_takes N x1 w = some (y, v) → aw_Met l K MX12_takes (d) [.inr (.inr 49), .inl x1] w (some (.inl y), v) := by
  obtain ⟨e, rfl⟩ : ∃ e, d = e + 1 := ⟨d - 1, by omega⟩
  exact w_m_takes_d N e (by omega)
def m_isAmong_221_27 (N : Nat) (w : aw_W) : Option (Int × aw_W) :=
  some (0, w)
theorem w_m_isAmong_221_27 {l : Launch} {K : aw_K} (N d : Nat) (hd : 3 ≤ d) : ∀ (w : aw_W) (y : Int) (v : aw_W), m_isAmong_221_27 N w = some (y, v) → aw_AW l K MX12_isAmong (d + 1) 27 [] [] w (some (.inl y), v) := by
  intro w y v h
  unfold m_isAmong_221_27 at h
  refine aw_iconst (pc := 27) dX12_isAmong_27 ⟨by decide, by decide⟩ ?_
  cases h
  exact aw_zret (pc := 28) rfl (by decide) dX12_isAmong_28
def m_isAmong_221_19 (N : Nat) (w : aw_W) : Option (Int × aw_W) :=
  some (1, w)
theorem w_m_isAmong_221_19 {l : Launch} {K : aw_K} (N d : Nat) (hd : 3 ≤ d) : ∀ (w : aw_W) (y : Int) (v : aw_W), m_isAmong_221_19 N w = some (y, v) → aw_AW l K MX12_isAmong (d + 1) 19 [] [] w (some (.inl y), v) := by
  intro w y v h
  unfold m_isAmong_221_19 at h
  refine aw_iconst (pc := 19) dX12_isAmong_19 ⟨by decide, by decide⟩ ?_
  cases h
  exact aw_zret (pc := 20) rfl (by decide) dX12_isAmong_20
def m_isAmong_221_2 (N : Nat) : Nat → Int → Int → aw_W → Option (Int × aw_W)
  | 0, _, _, _ => none
  | n + 1, x1, x2, w =>
    aw_b2 (j_Str_length_221 N w) fun r1 w1 =>
      if r1 ≤ x2 then
        m_isAmong_221_27 N w1
      else
        aw_b2 (j_Str_charAt_221 N x2 w1) fun r2 w2 =>
          if r2 = x1 then
            m_isAmong_221_19 N w2
          else
            m_isAmong_221_2 N n x1 (aw_w (x2 + 1)) w2
theorem w_m_isAmong_221_2 {l : Launch} {K : aw_K} (N d : Nat) (hd : 3 ≤ d) : ∀ (n : Nat) (x1 x2 : Int) (w : aw_W) (y : Int) (v : aw_W), m_isAmong_221_2 N n x1 x2 w = some (y, v) → aw_AW l K MX12_isAmong (d + 1) 2 [(0, .inr (.inr 221)), (1, .inl x1), (2, .inl x2)] [] w (some (.inl y), v) := by
  intro n
  induction n with
  | zero => intro x1 x2 w y v h; rw [m_isAmong_221_2] at h; cases h
  | succ n ih =>
    intro x1 x2 w y v h
    rw [m_isAmong_221_2] at h
    refine aw_iload_n (pc := 2) (q := 2) dX12_isAmong_2 rfl ?_
    refine aw_aload_n (pc := 3) (q := 0) dX12_isAmong_3 rfl ?_
    obtain ⟨r1, w1, h1, h⟩ := aw_b2s h
    refine aw_callT (pc := 4) (k := 1) (as := []) (st := [.inl x2]) (st' := [.inl r1, .inl x2]) dX12_isAmong_4 cv_RX12_102 (by decide) rfl rfl rfl (Nat.le_of_ble_eq_true rfl) (w_j_Str_length_221 N d (by omega) _ _ _ h1) rfl ?_
    refine aw_icmp_ge (pc := 7) (tgt := 27) dX12_isAmong_7 (by decide) (fun hc => ?_) (fun hc => ?_)
    · rw [if_pos hc] at h
      exact aw_sel [] rfl (w_m_isAmong_221_27 N d hd  _ _ _ h)
    · rw [if_neg hc] at h
      refine aw_aload_n (pc := 10) (q := 0) dX12_isAmong_10 rfl ?_
      refine aw_iload_n (pc := 11) (q := 2) dX12_isAmong_11 rfl ?_
      obtain ⟨r2, w2, h2, h⟩ := aw_b2s h
      refine aw_callT (pc := 12) (k := 1) (as := [.inl x2]) (st := []) (st' := [.inl r2]) dX12_isAmong_12 cv_RX12_108 (by decide) rfl rfl rfl (Nat.le_of_ble_eq_true rfl) (w_j_Str_charAt_221 N d (by omega) _ _ _ _ h2) rfl ?_
      refine aw_iload_n (pc := 15) (q := 1) dX12_isAmong_15 rfl ?_
      refine aw_icmp_ne (pc := 16) (tgt := 21) dX12_isAmong_16 (by decide) (fun hc => ?_) (fun hc => ?_)
      · rw [if_neg hc] at h
        refine aw_iinc (pc := 21) (q := 2) (ls' := [(2, .inl (aw_w (x2 + 1))), (0, .inr (.inr 221)), (1, .inl x1)]) dX12_isAmong_21 rfl (by decide) rfl ?_
        refine aw_goto (pc := 24) (tgt := 2) dX12_isAmong_24 (by decide) ?_
        exact aw_sel [1, 2, 0] rfl (ih _ _ _ _ _ h)
      · rw [if_pos hc] at h
        exact aw_sel [] rfl (w_m_isAmong_221_19 N d hd  _ _ _ h)
def m_isAmong_221 (N : Nat) (x1 : Int) (w : aw_W) : Option (Int × aw_W) :=
  m_isAmong_221_2 N N x1 0 w
theorem w_m_isAmong_221_d {l : Launch} {K : aw_K} (N d : Nat) (hd : 3 ≤ d) : ∀ (x1 : Int) (w : aw_W) (y : Int) (v : aw_W), m_isAmong_221 N x1 w = some (y, v) → aw_Met l K MX12_isAmong (d + 1) [.inr (.inr 221), .inl x1] w (some (.inl y), v) := by
  intro x1 w y v h
  unfold m_isAmong_221 at h
  refine aw_enter rfl (Nat.le_of_ble_eq_true rfl) ?_
  show aw_AW l K MX12_isAmong (d + 1) 0 [(0, .inr (.inr 221)), (1, .inl x1)] [] w (some (.inl y), v)
  refine aw_iconst (pc := 0) dX12_isAmong_0 ⟨by decide, by decide⟩ ?_
  refine aw_istore_n (pc := 1) (ls' := [(2, .inl 0), (0, .inr (.inr 221)), (1, .inl x1)]) dX12_isAmong_1 (by decide) rfl ?_
  exact aw_sel [1, 2, 0] rfl (w_m_isAmong_221_2 N d hd  N _ _ _ _ _ h)
theorem w_m_isAmong_221 {l : Launch} {K : aw_K} (N d : Nat) (hd : 4 ≤ d) : ∀ (x1 : Int) (w : aw_W) (y : Int) (v : aw_W), m_isAmong_221 N x1 w = some (y, v) → aw_Met l K MX12_isAmong (d) [.inr (.inr 221), .inl x1] w (some (.inl y), v) := by
  obtain ⟨e, rfl⟩ : ∃ e, d = e + 1 := ⟨d - 1, by omega⟩
  exact w_m_isAmong_221_d N e (by omega)
theorem dX12_isDigit_0 : decode cX12_isDigit 0 = .ok (.aload_n 0, 1) := by decide +kernel
theorem dX12_isDigit_1 : decode cX12_isDigit 1 = .ok (.getfield 122, 3) := by decide +kernel
theorem dX12_isDigit_4 : decode cX12_isDigit 4 = .ok (.aload_n 0, 1) := by decide +kernel
theorem dX12_isDigit_5 : decode cX12_isDigit 5 = .ok (.getfield 125, 3) := by decide +kernel
theorem dX12_isDigit_8 : decode cX12_isDigit 8 = .ok (.if_icmp .ge 45, 3) := by decide +kernel
theorem dX12_isDigit_11 : decode cX12_isDigit 11 = .ok (.aload_n 0, 1) := by decide +kernel
theorem dX12_isDigit_12 : decode cX12_isDigit 12 = .ok (.getfield 23, 3) := by decide +kernel
theorem dX12_isDigit_15 : decode cX12_isDigit 15 = .ok (.aload_n 0, 1) := by decide +kernel
theorem dX12_isDigit_16 : decode cX12_isDigit 16 = .ok (.getfield 128, 3) := by decide +kernel
theorem dX12_isDigit_19 : decode cX12_isDigit 19 = .ok (.aload_n 0, 1) := by decide +kernel
theorem dX12_isDigit_20 : decode cX12_isDigit 20 = .ok (.getfield 122, 3) := by decide +kernel
theorem dX12_isDigit_23 : decode cX12_isDigit 23 = .ok (.iadd, 1) := by decide +kernel
theorem dX12_isDigit_24 : decode cX12_isDigit 24 = .ok (.baload, 1) := by decide +kernel
theorem dX12_isDigit_25 : decode cX12_isDigit 25 = .ok (.bipush 48, 2) := by decide +kernel
theorem dX12_isDigit_27 : decode cX12_isDigit 27 = .ok (.if_icmp .lt 26, 3) := by decide +kernel
theorem dX12_isDigit_30 : decode cX12_isDigit 30 = .ok (.aload_n 0, 1) := by decide +kernel
theorem dX12_isDigit_31 : decode cX12_isDigit 31 = .ok (.getfield 23, 3) := by decide +kernel
theorem dX12_isDigit_34 : decode cX12_isDigit 34 = .ok (.aload_n 0, 1) := by decide +kernel
theorem dX12_isDigit_35 : decode cX12_isDigit 35 = .ok (.getfield 128, 3) := by decide +kernel
theorem dX12_isDigit_38 : decode cX12_isDigit 38 = .ok (.aload_n 0, 1) := by decide +kernel
theorem dX12_isDigit_39 : decode cX12_isDigit 39 = .ok (.getfield 122, 3) := by decide +kernel
theorem dX12_isDigit_42 : decode cX12_isDigit 42 = .ok (.iadd, 1) := by decide +kernel
theorem dX12_isDigit_43 : decode cX12_isDigit 43 = .ok (.baload, 1) := by decide +kernel
theorem dX12_isDigit_44 : decode cX12_isDigit 44 = .ok (.bipush 57, 2) := by decide +kernel
theorem dX12_isDigit_46 : decode cX12_isDigit 46 = .ok (.if_icmp .gt 7, 3) := by decide +kernel
theorem dX12_isDigit_49 : decode cX12_isDigit 49 = .ok (.iconst 1, 1) := by decide +kernel
theorem dX12_isDigit_50 : decode cX12_isDigit 50 = .ok (.goto 4, 3) := by decide +kernel
theorem dX12_isDigit_53 : decode cX12_isDigit 53 = .ok (.iconst 0, 1) := by decide +kernel
theorem dX12_isDigit_54 : decode cX12_isDigit 54 = .ok (.ireturn, 1) := by decide +kernel
def m_isDigit_54 (N : Nat) (s0 : Int) (w : aw_W) : Option (Int × aw_W) :=
  if s0 = 0 ∨ s0 = 1 then
    some (s0, w)
  else none
theorem w_m_isDigit_54 {l : Launch} {K : aw_K} (N d : Nat) : ∀ (s0 : Int) (w : aw_W) (y : Int) (v : aw_W), m_isDigit_54 N s0 w = some (y, v) → aw_AW l K MX12_isDigit (d) 54 [] [.inl s0] w (some (.inl y), v) := by
  intro s0 w y v h
  unfold m_isDigit_54 at h
  obtain ⟨hz, h⟩ := aw_cks h
  cases h
  exact aw_zret (pc := 54) rfl hz dX12_isDigit_54
def m_isDigit_53 (N : Nat) (w : aw_W) : Option (Int × aw_W) :=
  m_isDigit_54 N 0 w
theorem w_m_isDigit_53 {l : Launch} {K : aw_K} (N d : Nat) : ∀ (w : aw_W) (y : Int) (v : aw_W), m_isDigit_53 N w = some (y, v) → aw_AW l K MX12_isDigit (d) 53 [] [] w (some (.inl y), v) := by
  intro w y v h
  unfold m_isDigit_53 at h
  refine aw_iconst (pc := 53) dX12_isDigit_53 ⟨by decide, by decide⟩ ?_
  exact aw_sel [] rfl (w_m_isDigit_54 N d  _ _ _ _ h)
def m_isDigit (N : Nat) (w : aw_W) : Option (Int × aw_W) :=
  if (w 49 9) ≤ (w 49 10) then
    m_isDigit_53 N w
  else
    if aw_bA ((w 49 5).toNat) = true ∧ 0 ≤ (aw_w ((w 49 8) + (w 49 10))) ∧ (aw_w ((w 49 8) + (w 49 10))) < aw_ln ((w 49 5).toNat) then
      if (w ((w 49 5).toNat) ((aw_w ((w 49 8) + (w 49 10))).toNat)) < 48 then
        m_isDigit_53 N w
      else
        if aw_bA ((w 49 5).toNat) = true ∧ 0 ≤ (aw_w ((w 49 8) + (w 49 10))) ∧ (aw_w ((w 49 8) + (w 49 10))) < aw_ln ((w 49 5).toNat) then
          if 57 < (w ((w 49 5).toNat) ((aw_w ((w 49 8) + (w 49 10))).toNat)) then
            m_isDigit_53 N w
          else
            m_isDigit_54 N 1 w
        else none
    else none
theorem w_m_isDigit {l : Launch} {K : aw_K} (N d : Nat) (hd : 0 ≤ d) : ∀ (w : aw_W) (y : Int) (v : aw_W), m_isDigit N w = some (y, v) → aw_Met l K MX12_isDigit (d) [.inr (.inr 49)] w (some (.inl y), v) := by
  intro w y v h
  unfold m_isDigit at h
  refine aw_enter rfl (Nat.le_of_ble_eq_true rfl) ?_
  show aw_AW l K MX12_isDigit (d) 0 [(0, .inr (.inr 49))] [] w (some (.inl y), v)
  refine aw_aload_n (pc := 0) (q := 0) dX12_isDigit_0 rfl ?_
  refine aw_getf (pc := 1) (v := .inl (w 49 10)) dX12_isDigit_1 fl_RX12_122 (by decide) rfl rfl rfl ?_
  refine aw_aload_n (pc := 4) (q := 0) dX12_isDigit_4 rfl ?_
  refine aw_getf (pc := 5) (v := .inl (w 49 9)) dX12_isDigit_5 fl_RX12_125 (by decide) rfl rfl rfl ?_
  refine aw_icmp_ge (pc := 8) (tgt := 53) dX12_isDigit_8 (by decide) (fun hc => ?_) (fun hc => ?_)
  · rw [if_pos hc] at h
    exact aw_sel [] rfl (w_m_isDigit_53 N d  _ _ _ h)
  · rw [if_neg hc] at h
    refine aw_aload_n (pc := 11) (q := 0) dX12_isDigit_11 rfl ?_
    refine aw_getf (pc := 12) (v := .inr (.inr ((w 49 5).toNat))) dX12_isDigit_12 fl_RX12_23 (by decide) rfl rfl rfl ?_
    refine aw_aload_n (pc := 15) (q := 0) dX12_isDigit_15 rfl ?_
    refine aw_getf (pc := 16) (v := .inl (w 49 8)) dX12_isDigit_16 fl_RX12_128 (by decide) rfl rfl rfl ?_
    refine aw_aload_n (pc := 19) (q := 0) dX12_isDigit_19 rfl ?_
    refine aw_getf (pc := 20) (v := .inl (w 49 10)) dX12_isDigit_20 fl_RX12_122 (by decide) rfl rfl rfl ?_
    refine aw_iadd (pc := 23) dX12_isDigit_23 ?_
    obtain ⟨hb, h⟩ := aw_cks h
    refine aw_baldx (pc := 24) (v := w ((w 49 5).toNat) ((aw_w ((w 49 8) + (w 49 10))).toNat)) dX12_isDigit_24 hb.1 hb.2.1 hb.2.2 rfl ?_
    refine aw_bipush (pc := 25) dX12_isDigit_25 (by decide) ⟨by decide, by decide⟩ ?_
    refine aw_icmp_lt (pc := 27) (tgt := 53) dX12_isDigit_27 (by decide) (fun hc => ?_) (fun hc => ?_)
    · rw [if_pos hc] at h
      exact aw_sel [] rfl (w_m_isDigit_53 N d  _ _ _ h)
    · rw [if_neg hc] at h
      refine aw_aload_n (pc := 30) (q := 0) dX12_isDigit_30 rfl ?_
      refine aw_getf (pc := 31) (v := .inr (.inr ((w 49 5).toNat))) dX12_isDigit_31 fl_RX12_23 (by decide) rfl rfl rfl ?_
      refine aw_aload_n (pc := 34) (q := 0) dX12_isDigit_34 rfl ?_
      refine aw_getf (pc := 35) (v := .inl (w 49 8)) dX12_isDigit_35 fl_RX12_128 (by decide) rfl rfl rfl ?_
      refine aw_aload_n (pc := 38) (q := 0) dX12_isDigit_38 rfl ?_
      refine aw_getf (pc := 39) (v := .inl (w 49 10)) dX12_isDigit_39 fl_RX12_122 (by decide) rfl rfl rfl ?_
      refine aw_iadd (pc := 42) dX12_isDigit_42 ?_
      obtain ⟨hb, h⟩ := aw_cks h
      refine aw_baldx (pc := 43) (v := w ((w 49 5).toNat) ((aw_w ((w 49 8) + (w 49 10))).toNat)) dX12_isDigit_43 hb.1 hb.2.1 hb.2.2 rfl ?_
      refine aw_bipush (pc := 44) dX12_isDigit_44 (by decide) ⟨by decide, by decide⟩ ?_
      refine aw_icmp_gt (pc := 46) (tgt := 53) dX12_isDigit_46 (by decide) (fun hc => ?_) (fun hc => ?_)
      · rw [if_pos hc] at h
        exact aw_sel [] rfl (w_m_isDigit_53 N d  _ _ _ h)
      · rw [if_neg hc] at h
        refine aw_iconst (pc := 49) dX12_isDigit_49 ⟨by decide, by decide⟩ ?_
        refine aw_goto (pc := 50) (tgt := 54) dX12_isDigit_50 (by decide) ?_
        exact aw_sel [] rfl (w_m_isDigit_54 N d  _ _ _ _ h)
