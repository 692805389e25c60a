theorem dX12_clause_0 : decode cX12_clause 0 = .ok (.aload_n 0, 1) := by decide +kernel
theorem dX12_clause_1 : decode cX12_clause 1 = .ok (.invokevirtual 141, 3) := by decide +kernel
theorem dX12_clause_4 : decode cX12_clause 4 = .ok (.istore_n 1, 1) := by decide +kernel
theorem dX12_clause_5 : decode cX12_clause 5 = .ok (.ldc 26, 2) := by decide +kernel
theorem dX12_clause_7 : decode cX12_clause 7 = .ok (.iload_n 1, 1) := by decide +kernel
theorem dX12_clause_8 : decode cX12_clause 8 = .ok (.invokestatic 157, 3) := by decide +kernel
theorem dX12_clause_11 : decode cX12_clause 11 = .ok (.ifCond .ne 9, 3) := by decide +kernel
theorem dX12_clause_14 : decode cX12_clause 14 = .ok (.aload_n 0, 1) := by decide +kernel
theorem dX12_clause_15 : decode cX12_clause 15 = .ok (.invokevirtual 137, 3) := by decide +kernel
theorem dX12_clause_18 : decode cX12_clause 18 = .ok (.pop, 1) := by decide +kernel
theorem dX12_clause_19 : decode cX12_clause 19 = .ok (.return_, 1) := by decide +kernel
theorem dX12_clause_20 : decode cX12_clause 20 = .ok (.aload_n 0, 1) := by decide +kernel
theorem dX12_clause_21 : decode cX12_clause 21 = .ok (.dup, 1) := by decide +kernel
theorem dX12_clause_22 : decode cX12_clause 22 = .ok (.getfield 122, 3) := by decide +kernel
theorem dX12_clause_25 : decode cX12_clause 25 = .ok (.iconst 1, 1) := by decide +kernel
theorem dX12_clause_26 : decode cX12_clause 26 = .ok (.iadd, 1) := by decide +kernel
theorem dX12_clause_27 : decode cX12_clause 27 = .ok (.putfield 122, 3) := by decide +kernel
theorem dX12_clause_30 : decode cX12_clause 30 = .ok (.aload_n 0, 1) := by decide +kernel
theorem dX12_clause_31 : decode cX12_clause 31 = .ok (.bipush 58, 2) := by decide +kernel
theorem dX12_clause_33 : decode cX12_clause 33 = .ok (.invokevirtual 167, 3) := by decide +kernel
theorem dX12_clause_36 : decode cX12_clause 36 = .ok (.ifCond .ne 4, 3) := by decide +kernel
theorem dX12_clause_39 : decode cX12_clause 39 = .ok (.return_, 1) := by decide +kernel
theorem dX12_clause_40 : decode cX12_clause 40 = .ok (.iconst 1, 1) := by decide +kernel
theorem dX12_clause_41 : decode cX12_clause 41 = .ok (.istore_n 2, 1) := by decide +kernel
theorem dX12_clause_42 : decode cX12_clause 42 = .ok (.iconst 0, 1) := by decide +kernel
theorem dX12_clause_43 : decode cX12_clause 43 = .ok (.istore_n 3, 1) := by decide +kernel
theorem dX12_clause_44 : decode cX12_clause 44 = .ok (.aload_n 0, 1) := by decide +kernel
theorem dX12_clause_45 : decode cX12_clause 45 = .ok (.invokevirtual 141, 3) := by decide +kernel
theorem dX12_clause_48 : decode cX12_clause 48 = .ok (.istore 4, 2) := by decide +kernel
theorem dX12_clause_50 : decode cX12_clause 50 = .ok (.iload 4, 2) := by decide +kernel
theorem dX12_clause_52 : decode cX12_clause 52 = .ok (.bipush 33, 2) := by decide +kernel
theorem dX12_clause_54 : decode cX12_clause 54 = .ok (.if_icmp .eq 10, 3) := by decide +kernel
theorem dX12_clause_57 : decode cX12_clause 57 = .ok (.iload 4, 2) := by decide +kernel
theorem dX12_clause_59 : decode cX12_clause 59 = .ok (.bipush 40, 2) := by decide +kernel
theorem dX12_clause_61 : decode cX12_clause 61 = .ok (.if_icmp .ne 28, 3) := by decide +kernel
theorem dX12_clause_64 : decode cX12_clause 64 = .ok (.aload_n 0, 1) := by decide +kernel
theorem dX12_clause_65 : decode cX12_clause 65 = .ok (.iconst 0, 1) := by decide +kernel
theorem dX12_clause_66 : decode cX12_clause 66 = .ok (.iconst 0, 1) := by decide +kernel
theorem dX12_clause_67 : decode cX12_clause 67 = .ok (.invokevirtual 190, 3) := by decide +kernel
theorem dX12_clause_70 : decode cX12_clause 70 = .ok (.istore_n 2, 1) := by decide +kernel
theorem dX12_clause_71 : decode cX12_clause 71 = .ok (.aload_n 0, 1) := by decide +kernel
theorem dX12_clause_72 : decode cX12_clause 72 = .ok (.bipush 63, 2) := by decide +kernel
theorem dX12_clause_74 : decode cX12_clause 74 = .ok (.invokevirtual 167, 3) := by decide +kernel
theorem dX12_clause_77 : decode cX12_clause 77 = .ok (.ifCond .ne 4, 3) := by decide +kernel
theorem dX12_clause_80 : decode cX12_clause 80 = .ok (.return_, 1) := by decide +kernel
theorem dX12_clause_81 : decode cX12_clause 81 = .ok (.aload_n 0, 1) := by decide +kernel
theorem dX12_clause_82 : decode cX12_clause 82 = .ok (.invokevirtual 164, 3) := by decide +kernel
theorem dX12_clause_85 : decode cX12_clause 85 = .ok (.istore_n 3, 1) := by decide +kernel
theorem dX12_clause_86 : decode cX12_clause 86 = .ok (.goto 48, 3) := by decide +kernel
theorem dX12_clause_89 : decode cX12_clause 89 = .ok (.aload_n 0, 1) := by decide +kernel
theorem dX12_clause_90 : decode cX12_clause 90 = .ok (.invokevirtual 164, 3) := by decide +kernel
theorem dX12_clause_93 : decode cX12_clause 93 = .ok (.istore_n 3, 1) := by decide +kernel
theorem dX12_clause_94 : decode cX12_clause 94 = .ok (.aload_n 0, 1) := by decide +kernel
theorem dX12_clause_95 : decode cX12_clause 95 = .ok (.getfield 131, 3) := by decide +kernel
theorem dX12_clause_98 : decode cX12_clause 98 = .ok (.iconst (-1), 1) := by decide +kernel
theorem dX12_clause_99 : decode cX12_clause 99 = .ok (.if_icmp .ne 35, 3) := by decide +kernel
theorem dX12_clause_102 : decode cX12_clause 102 = .ok (.aload_n 0, 1) := by decide +kernel
theorem dX12_clause_103 : decode cX12_clause 103 = .ok (.invokevirtual 141, 3) := by decide +kernel
theorem dX12_clause_106 : decode cX12_clause 106 = .ok (.invokestatic 184, 3) := by decide +kernel
theorem dX12_clause_109 : decode cX12_clause 109 = .ok (.ifCond .eq 25, 3) := by decide +kernel
theorem dX12_clause_112 : decode cX12_clause 112 = .ok (.aload_n 0, 1) := by decide +kernel
theorem dX12_clause_113 : decode cX12_clause 113 = .ok (.iconst 1, 1) := by decide +kernel
theorem dX12_clause_114 : decode cX12_clause 114 = .ok (.iload_n 3, 1) := by decide +kernel
theorem dX12_clause_115 : decode cX12_clause 115 = .ok (.invokevirtual 190, 3) := by decide +kernel
theorem dX12_clause_118 : decode cX12_clause 118 = .ok (.istore_n 2, 1) := by decide +kernel
theorem dX12_clause_119 : decode cX12_clause 119 = .ok (.aload_n 0, 1) := by decide +kernel
theorem dX12_clause_120 : decode cX12_clause 120 = .ok (.bipush 63, 2) := by decide +kernel
theorem dX12_clause_122 : decode cX12_clause 122 = .ok (.invokevirtual 167, 3) := by decide +kernel
theorem dX12_clause_125 : decode cX12_clause 125 = .ok (.ifCond .ne 4, 3) := by decide +kernel
theorem dX12_clause_128 : decode cX12_clause 128 = .ok (.return_, 1) := by decide +kernel
theorem dX12_clause_129 : decode cX12_clause 129 = .ok (.aload_n 0, 1) := by decide +kernel
theorem dX12_clause_130 : decode cX12_clause 130 = .ok (.invokevirtual 164, 3) := by decide +kernel
theorem dX12_clause_133 : decode cX12_clause 133 = .ok (.istore_n 3, 1) := by decide +kernel
theorem dX12_clause_134 : decode cX12_clause 134 = .ok (.aload_n 0, 1) := by decide +kernel
theorem dX12_clause_135 : decode cX12_clause 135 = .ok (.getfield 131, 3) := by decide +kernel
theorem dX12_clause_138 : decode cX12_clause 138 = .ok (.iconst (-1), 1) := by decide +kernel
theorem dX12_clause_139 : decode cX12_clause 139 = .ok (.if_icmp .ne 22, 3) := by decide +kernel
theorem dX12_clause_142 : decode cX12_clause 142 = .ok (.aload_n 0, 1) := by decide +kernel
theorem dX12_clause_143 : decode cX12_clause 143 = .ok (.getfield 200, 3) := by decide +kernel
theorem dX12_clause_146 : decode cX12_clause 146 = .ok (.ifCond .ne 15, 3) := by decide +kernel
theorem dX12_clause_149 : decode cX12_clause 149 = .ok (.iload_n 1, 1) := by decide +kernel
theorem dX12_clause_150 : decode cX12_clause 150 = .ok (.aload_n 0, 1) := by decide +kernel
theorem dX12_clause_151 : decode cX12_clause 151 = .ok (.getfield 204, 3) := by decide +kernel
theorem dX12_clause_154 : decode cX12_clause 154 = .ok (.if_icmp .ne 7, 3) := by decide +kernel
theorem dX12_clause_157 : decode cX12_clause 157 = .ok (.iload_n 2, 1) := by decide +kernel
theorem dX12_clause_158 : decode cX12_clause 158 = .ok (.ifCond .ne 4, 3) := by decide +kernel
theorem dX12_clause_161 : decode cX12_clause 161 = .ok (.return_, 1) := by decide +kernel
theorem dX12_clause_162 : decode cX12_clause 162 = .ok (.aload_n 0, 1) := by decide +kernel
theorem dX12_clause_163 : decode cX12_clause 163 = .ok (.iconst 1, 1) := by decide +kernel
theorem dX12_clause_164 : decode cX12_clause 164 = .ok (.putfield 200, 3) := by decide +kernel
theorem dX12_clause_167 : decode cX12_clause 167 = .ok (.aload_n 0, 1) := by decide +kernel
theorem dX12_clause_168 : decode cX12_clause 168 = .ok (.iload_n 3, 1) := by decide +kernel
theorem dX12_clause_169 : decode cX12_clause 169 = .ok (.putfield 207, 3) := by decide +kernel
theorem dX12_clause_172 : decode cX12_clause 172 = .ok (.return_, 1) := by decide +kernel
def m_clause_161 (N : Nat) (w : aw_W) : Option (aw_W) :=
  some w
theorem w_m_clause_161 {l : Launch} {K : aw_K} (N d : Nat) (hd : 125 ≤ d) : ∀ (w v : aw_W), m_clause_161 N w = some v → aw_AW l K MX12_clause (d + 1) 161 [] [] w (none, v) := by
  intro w v h
  unfold m_clause_161 at h
  cases h
  exact aw_vret (pc := 161) rfl dX12_clause_161
def m_clause_134 (N : Nat) (x1 x2 x3 : Int) (w : aw_W) : Option (aw_W) :=
  if (w 49 11) = (-1) then
    if (w 49 17) = 0 then
      if x1 = (w 49 13) then
        if x2 = 0 then
          m_clause_161 N w
        else
          some (aw_up (aw_up w 49 17 1) 49 14 x3)
      else
        m_clause_161 N w
    else
      m_clause_161 N w
  else
    m_clause_161 N w
theorem w_m_clause_134 {l : Launch} {K : aw_K} (N d : Nat) (hd : 125 ≤ d) : ∀ (x1 x2 x3 : Int) (w v : aw_W), m_clause_134 N x1 x2 x3 w = some v → aw_AW l K MX12_clause (d + 1) 134 [(0, .inr (.inr 49)), (1, .inl x1), (2, .inl x2), (3, .inl x3)] [] w (none, v) := by
  intro x1 x2 x3 w v h
  unfold m_clause_134 at h
  refine aw_aload_n (pc := 134) (q := 0) dX12_clause_134 rfl ?_
  refine aw_getf (pc := 135) (v := .inl (w 49 11)) dX12_clause_135 fl_RX12_131 (by decide) rfl rfl rfl ?_
  refine aw_iconst (pc := 138) dX12_clause_138 ⟨by decide, by decide⟩ ?_
  refine aw_icmp_ne (pc := 139) (tgt := 161) dX12_clause_139 (by decide) (fun hc => ?_) (fun hc => ?_)
  · rw [if_neg hc] at h
    exact aw_sel [] rfl (w_m_clause_161 N d hd  _ _ h)
  · rw [if_pos hc] at h
    refine aw_aload_n (pc := 142) (q := 0) dX12_clause_142 rfl ?_
    refine aw_getf (pc := 143) (v := .inl (w 49 17)) dX12_clause_143 fl_RX12_200 (by decide) rfl rfl rfl ?_
    refine aw_if_ne (pc := 146) (tgt := 161) dX12_clause_146 (by decide) (fun hc => ?_) (fun hc => ?_)
    · rw [if_neg hc] at h
      exact aw_sel [] rfl (w_m_clause_161 N d hd  _ _ h)
    · rw [if_pos hc] at h
      refine aw_iload_n (pc := 149) (q := 1) dX12_clause_149 rfl ?_
      refine aw_aload_n (pc := 150) (q := 0) dX12_clause_150 rfl ?_
      refine aw_getf (pc := 151) (v := .inl (w 49 13)) dX12_clause_151 fl_RX12_204 (by decide) rfl rfl rfl ?_
      refine aw_icmp_ne (pc := 154) (tgt := 161) dX12_clause_154 (by decide) (fun hc => ?_) (fun hc => ?_)
      · rw [if_neg hc] at h
        exact aw_sel [] rfl (w_m_clause_161 N d hd  _ _ h)
      · rw [if_pos hc] at h
        refine aw_iload_n (pc := 157) (q := 2) dX12_clause_157 rfl ?_
        refine aw_if_ne (pc := 158) (tgt := 162) dX12_clause_158 (by decide) (fun hc => ?_) (fun hc => ?_)
        · rw [if_neg hc] at h
          refine aw_aload_n (pc := 162) (q := 0) dX12_clause_162 rfl ?_
          refine aw_iconst (pc := 163) dX12_clause_163 ⟨by decide, by decide⟩ ?_
          refine aw_putz (pc := 164) dX12_clause_164 fp_RX12_200 (by decide) rfl rfl (by decide) ?_
          refine aw_aload_n (pc := 167) (q := 0) dX12_clause_167 rfl ?_
          refine aw_iload_n (pc := 168) (q := 3) dX12_clause_168 rfl ?_
          refine aw_puti (pc := 169) dX12_clause_169 fp_RX12_207 (by decide) rfl rfl ?_
          cases h
          exact aw_vret (pc := 172) rfl dX12_clause_172
        · rw [if_pos hc] at h
          exact aw_sel [] rfl (w_m_clause_161 N d hd  _ _ h)
def m_clause_64 (N : Nat) (x1 : Int) (w : aw_W) : Option (aw_W) :=
  aw_b2 (m_condition N 0 0 w) fun r1 w1 =>
    aw_b2 (m_takes N 63 w1) fun r2 w2 =>
      if r2 = 0 then
        some w2
      else
        aw_b2 (m_sum N w2) fun r3 w3 =>
          m_clause_134 N x1 r1 r3 w3
theorem w_m_clause_64 {l : Launch} {K : aw_K} (N d : Nat) (hd : 125 ≤ d) : ∀ (x1 : Int) (w v : aw_W), m_clause_64 N x1 w = some v → aw_AW l K MX12_clause (d + 1) 64 [(0, .inr (.inr 49)), (1, .inl x1)] [] w (none, v) := by
  intro x1 w v h
  unfold m_clause_64 at h
  refine aw_aload_n (pc := 64) (q := 0) dX12_clause_64 rfl ?_
  refine aw_iconst (pc := 65) dX12_clause_65 ⟨by decide, by decide⟩ ?_
  refine aw_iconst (pc := 66) dX12_clause_66 ⟨by decide, by decide⟩ ?_
  obtain ⟨r1, w1, h1, h⟩ := aw_b2s h
  refine aw_callV (pc := 67) (as := [.inl 0, .inl 0]) (st := []) (st' := [.inl r1]) dX12_clause_67 cv_RX12_190 (by decide) rfl rfl rfl rfl (Nat.le_of_ble_eq_true rfl) (w_m_condition N d (by omega) _ _ _ _ _ h1) rfl ?_
  refine aw_istore_n (pc := 70) (ls' := [(2, .inl r1), (0, .inr (.inr 49)), (1, .inl x1)]) dX12_clause_70 (by decide) rfl ?_
  refine aw_aload_n (pc := 71) (q := 1) dX12_clause_71 rfl ?_
  refine aw_bipush (pc := 72) dX12_clause_72 (by decide) ⟨by decide, by decide⟩ ?_
  obtain ⟨r2, w2, h2, h⟩ := aw_b2s h
  refine aw_callV (pc := 74) (as := [.inl 63]) (st := []) (st' := [.inl r2]) dX12_clause_74 cv_RX12_167 (by decide) rfl rfl rfl rfl (Nat.le_of_ble_eq_true rfl) (w_m_takes N d (by omega) _ _ _ _ h2) rfl ?_
  refine aw_if_ne (pc := 77) (tgt := 81) dX12_clause_77 (by decide) (fun hc => ?_) (fun hc => ?_)
  · rw [if_neg hc] at h
    refine aw_aload_n (pc := 81) (q := 1) dX12_clause_81 rfl ?_
    obtain ⟨r3, w3, h3, h⟩ := aw_b2s h
    refine aw_callV (pc := 82) (as := []) (st := []) (st' := [.inl r3]) dX12_clause_82 cv_RX12_164 (by decide) rfl rfl rfl rfl (Nat.le_of_ble_eq_true rfl) (w_m_sum N d (by omega) _ _ _ h3) rfl ?_
    refine aw_istore_n (pc := 85) (ls' := [(3, .inl r3), (2, .inl r1), (0, .inr (.inr 49)), (1, .inl x1)]) dX12_clause_85 (by decide) rfl ?_
    refine aw_goto (pc := 86) (tgt := 134) dX12_clause_86 (by decide) ?_
    exact aw_sel [2, 3, 1, 0] rfl (w_m_clause_134 N d hd  _ _ _ _ _ h)
  · rw [if_pos hc] at h
    cases h
    exact aw_vret (pc := 80) rfl dX12_clause_80
def m_clause (N : Nat) (w : aw_W) : Option (aw_W) :=
  aw_b2 (m_look N w) fun r1 w1 =>
    aw_b2 (m_isAmong N r1 w1) fun r2 w2 =>
      if r2 = 0 then
        aw_b2 (m_fails N w2) fun r11 w11 =>
          some w11
      else
        aw_b2 (m_takes N 58 (aw_up w2 49 10 (aw_w ((w2 49 10) + 1)))) fun r3 w3 =>
          if r3 = 0 then
            some w3
          else
            aw_b2 (m_look N w3) fun r4 w4 =>
              if r4 = 33 then
                m_clause_64 N r1 w4
              else
                if r4 = 40 then
                  m_clause_64 N r1 w4
                else
                  aw_b2 (m_sum N w4) fun r5 w5 =>
                    if (w5 49 11) = (-1) then
                      aw_b2 (m_look N w5) fun r6 w6 =>
                        aw_b2 (m_isSign N r6 w6) fun r7 w7 =>
                          if r7 = 0 then
                            m_clause_134 N r1 1 r5 w7
                          else
                            aw_b2 (m_condition N 1 r5 w7) fun r8 w8 =>
                              aw_b2 (m_takes N 63 w8) fun r9 w9 =>
                                if r9 = 0 then
                                  some w9
                                else
                                  aw_b2 (m_sum N w9) fun r10 w10 =>
                                    m_clause_134 N r1 r8 r10 w10
                    else
                      m_clause_134 N r1 1 r5 w5
theorem w_m_clause_d {l : Launch} {K : aw_K} (N d : Nat) (hd : 125 ≤ d) : ∀ (w v : aw_W), m_clause N w = some v → aw_Met l K MX12_clause (d + 1) [.inr (.inr 49)] w (none, v) := by
  intro w v h
  unfold m_clause at h
  refine aw_enter rfl (Nat.le_of_ble_eq_true rfl) ?_
  show aw_AW l K MX12_clause (d + 1) 0 [(0, .inr (.inr 49))] [] w (none, v)
  refine aw_aload_n (pc := 0) (q := 0) dX12_clause_0 rfl ?_
  obtain ⟨r1, w1, h1, h⟩ := aw_b2s h
  refine aw_callV (pc := 1) (as := []) (st := []) (st' := [.inl r1]) dX12_clause_1 cv_RX12_141 (by decide) rfl rfl rfl rfl (Nat.le_of_ble_eq_true rfl) (w_m_look N d (by omega) _ _ _ h1) rfl ?_
  refine aw_istore_n (pc := 4) (ls' := [(1, .inl r1), (0, .inr (.inr 49))]) dX12_clause_4 (by decide) rfl ?_
  refine aw_ldcs0 (pc := 5) dX12_clause_5 ?_
  refine aw_iload_n (pc := 7) (q := 0) dX12_clause_7 rfl ?_
  obtain ⟨r2, w2, h2, h⟩ := aw_b2s h
  refine aw_callS (pc := 8) (as := [.inr (.inr 220), .inl r1]) (st := []) (st' := [.inl r2]) dX12_clause_8 cs_RX12_157 rfl rfl (Nat.le_of_ble_eq_true rfl) (w_m_isAmong N d (by omega) _ _ _ _ h2) rfl ?_
  refine aw_if_ne (pc := 11) (tgt := 20) dX12_clause_11 (by decide) (fun hc => ?_) (fun hc => ?_)
  · rw [if_neg hc] at h
    refine aw_aload_n (pc := 20) (q := 1) dX12_clause_20 rfl ?_
    refine aw_dup (pc := 21) dX12_clause_21 rfl ?_
    refine aw_getf (pc := 22) (v := .inl (w2 49 10)) dX12_clause_22 fl_RX12_122 (by decide) rfl rfl rfl ?_
    refine aw_iconst (pc := 25) dX12_clause_25 ⟨by decide, by decide⟩ ?_
    refine aw_iadd (pc := 26) dX12_clause_26 ?_
    refine aw_puti (pc := 27) dX12_clause_27 fp_RX12_122 (by decide) rfl rfl ?_
    refine aw_aload_n (pc := 30) (q := 1) dX12_clause_30 rfl ?_
    refine aw_bipush (pc := 31) dX12_clause_31 (by decide) ⟨by decide, by decide⟩ ?_
    obtain ⟨r3, w3, h3, h⟩ := aw_b2s h
    refine aw_callV (pc := 33) (as := [.inl 58]) (st := []) (st' := [.inl r3]) dX12_clause_33 cv_RX12_167 (by decide) rfl rfl rfl rfl (Nat.le_of_ble_eq_true rfl) (w_m_takes N d (by omega) _ _ _ _ h3) rfl ?_
    refine aw_if_ne (pc := 36) (tgt := 40) dX12_clause_36 (by decide) (fun hc => ?_) (fun hc => ?_)
    · rw [if_neg hc] at h
      refine aw_iconst (pc := 40) dX12_clause_40 ⟨by decide, by decide⟩ ?_
      refine aw_istore_n (pc := 41) (ls' := [(2, .inl 1), (1, .inl r1), (0, .inr (.inr 49))]) dX12_clause_41 (by decide) rfl ?_
      refine aw_iconst (pc := 42) dX12_clause_42 ⟨by decide, by decide⟩ ?_
      refine aw_istore_n (pc := 43) (ls' := [(3, .inl 0), (2, .inl 1), (1, .inl r1), (0, .inr (.inr 49))]) dX12_clause_43 (by decide) rfl ?_
      refine aw_aload_n (pc := 44) (q := 3) dX12_clause_44 rfl ?_
      obtain ⟨r4, w4, h4, h⟩ := aw_b2s h
      refine aw_callV (pc := 45) (as := []) (st := []) (st' := [.inl r4]) dX12_clause_45 cv_RX12_141 (by decide) rfl rfl rfl rfl (Nat.le_of_ble_eq_true rfl) (w_m_look N d (by omega) _ _ _ h4) rfl ?_
      refine aw_istore (pc := 48) (ls' := [(4, .inl r4), (3, .inl 0), (2, .inl 1), (1, .inl r1), (0, .inr (.inr 49))]) dX12_clause_48 (by decide) rfl ?_
      refine aw_iload (pc := 50) (q := 0) dX12_clause_50 rfl ?_
      refine aw_bipush (pc := 52) dX12_clause_52 (by decide) ⟨by decide, by decide⟩ ?_
      refine aw_icmp_eq (pc := 54) (tgt := 64) dX12_clause_54 (by decide) (fun hc => ?_) (fun hc => ?_)
      · rw [if_pos hc] at h
        exact aw_sel [4, 3] rfl (w_m_clause_64 N d hd  _ _ _ h)
      · rw [if_neg hc] at h
        refine aw_iload (pc := 57) (q := 0) dX12_clause_57 rfl ?_
        refine aw_bipush (pc := 59) dX12_clause_59 (by decide) ⟨by decide, by decide⟩ ?_
        refine aw_icmp_ne (pc := 61) (tgt := 89) dX12_clause_61 (by decide) (fun hc => ?_) (fun hc => ?_)
        · rw [if_neg hc] at h
          refine aw_aload_n (pc := 89) (q := 4) dX12_clause_89 rfl ?_
          obtain ⟨r5, w5, h5, h⟩ := aw_b2s h
          refine aw_callV (pc := 90) (as := []) (st := []) (st' := [.inl r5]) dX12_clause_90 cv_RX12_164 (by decide) rfl rfl rfl rfl (Nat.le_of_ble_eq_true rfl) (w_m_sum N d (by omega) _ _ _ h5) rfl ?_
          refine aw_istore_n (pc := 93) (ls' := [(3, .inl r5), (4, .inl r4), (2, .inl 1), (1, .inl r1), (0, .inr (.inr 49))]) dX12_clause_93 (by decide) rfl ?_
          refine aw_aload_n (pc := 94) (q := 4) dX12_clause_94 rfl ?_
          refine aw_getf (pc := 95) (v := .inl (w5 49 11)) dX12_clause_95 fl_RX12_131 (by decide) rfl rfl rfl ?_
          refine aw_iconst (pc := 98) dX12_clause_98 ⟨by decide, by decide⟩ ?_
          refine aw_icmp_ne (pc := 99) (tgt := 134) dX12_clause_99 (by decide) (fun hc => ?_) (fun hc => ?_)
          · rw [if_neg hc] at h
            exact aw_sel [4, 3, 2, 0] rfl (w_m_clause_134 N d hd  _ _ _ _ _ h)
          · rw [if_pos hc] at h
            refine aw_aload_n (pc := 102) (q := 4) dX12_clause_102 rfl ?_
            obtain ⟨r6, w6, h6, h⟩ := aw_b2s h
            refine aw_callV (pc := 103) (as := []) (st := []) (st' := [.inl r6]) dX12_clause_103 cv_RX12_141 (by decide) rfl rfl rfl rfl (Nat.le_of_ble_eq_true rfl) (w_m_look N d (by omega) _ _ _ h6) rfl ?_
            obtain ⟨r7, w7, h7, h⟩ := aw_b2s h
            refine aw_callS (pc := 106) (as := [.inl r6]) (st := []) (st' := [.inl r7]) dX12_clause_106 cs_RX12_184 rfl rfl (Nat.le_of_ble_eq_true rfl) (w_m_isSign N d (by omega) _ _ _ _ h7) rfl ?_
            refine aw_if_eq (pc := 109) (tgt := 134) dX12_clause_109 (by decide) (fun hc => ?_) (fun hc => ?_)
            · rw [if_pos hc] at h
              exact aw_sel [4, 3, 2, 0] rfl (w_m_clause_134 N d hd  _ _ _ _ _ h)
            · rw [if_neg hc] at h
              refine aw_aload_n (pc := 112) (q := 4) dX12_clause_112 rfl ?_
              refine aw_iconst (pc := 113) dX12_clause_113 ⟨by decide, by decide⟩ ?_
              refine aw_iload_n (pc := 114) (q := 0) dX12_clause_114 rfl ?_
              obtain ⟨r8, w8, h8, h⟩ := aw_b2s h
              refine aw_callV (pc := 115) (as := [.inl 1, .inl r5]) (st := []) (st' := [.inl r8]) dX12_clause_115 cv_RX12_190 (by decide) rfl rfl rfl rfl (Nat.le_of_ble_eq_true rfl) (w_m_condition N d (by omega) _ _ _ _ _ h8) rfl ?_
              refine aw_istore_n (pc := 118) (ls' := [(2, .inl r8), (3, .inl r5), (4, .inl r4), (1, .inl r1), (0, .inr (.inr 49))]) dX12_clause_118 (by decide) rfl ?_
              refine aw_aload_n (pc := 119) (q := 4) dX12_clause_119 rfl ?_
              refine aw_bipush (pc := 120) dX12_clause_120 (by decide) ⟨by decide, by decide⟩ ?_
              obtain ⟨r9, w9, h9, h⟩ := aw_b2s h
              refine aw_callV (pc := 122) (as := [.inl 63]) (st := []) (st' := [.inl r9]) dX12_clause_122 cv_RX12_167 (by decide) rfl rfl rfl rfl (Nat.le_of_ble_eq_true rfl) (w_m_takes N d (by omega) _ _ _ _ h9) rfl ?_
              refine aw_if_ne (pc := 125) (tgt := 129) dX12_clause_125 (by decide) (fun hc => ?_) (fun hc => ?_)
              · rw [if_neg hc] at h
                refine aw_aload_n (pc := 129) (q := 4) dX12_clause_129 rfl ?_
                obtain ⟨r10, w10, h10, h⟩ := aw_b2s h
                refine aw_callV (pc := 130) (as := []) (st := []) (st' := [.inl r10]) dX12_clause_130 cv_RX12_164 (by decide) rfl rfl rfl rfl (Nat.le_of_ble_eq_true rfl) (w_m_sum N d (by omega) _ _ _ h10) rfl ?_
                refine aw_istore_n (pc := 133) (ls' := [(3, .inl r10), (2, .inl r8), (4, .inl r4), (1, .inl r1), (0, .inr (.inr 49))]) dX12_clause_133 (by decide) rfl ?_
                exact aw_sel [4, 3, 1, 0] rfl (w_m_clause_134 N d hd  _ _ _ _ _ h)
              · rw [if_pos hc] at h
                cases h
                exact aw_vret (pc := 128) rfl dX12_clause_128
        · rw [if_pos hc] at h
          exact aw_sel [4, 3] rfl (w_m_clause_64 N d hd  _ _ _ h)
    · rw [if_pos hc] at h
      cases h
      exact aw_vret (pc := 39) rfl dX12_clause_39
  · rw [if_pos hc] at h
    refine aw_aload_n (pc := 14) (q := 1) dX12_clause_14 rfl ?_
    obtain ⟨r11, w11, h11, h⟩ := aw_b2s h
    refine aw_callV (pc := 15) (as := []) (st := []) (st' := [.inl r11]) dX12_clause_15 cv_RX12_137 (by decide) rfl rfl rfl rfl (Nat.le_of_ble_eq_true rfl) (w_m_fails N d (by omega) _ _ _ h11) rfl ?_
    refine aw_pop (pc := 18) dX12_clause_18 rfl ?_
    cases h
    exact aw_vret (pc := 19) rfl dX12_clause_19
theorem w_m_clause {l : Launch} {K : aw_K} (N d : Nat) (hd : 126 ≤ d) : ∀ (w v : aw_W), m_clause N w = some v → aw_Met l K MX12_clause (d) [.inr (.inr 49)] w (none, v) := by
  obtain ⟨e, rfl⟩ : ∃ e, d = e + 1 := ⟨d - 1, by omega⟩
  exact w_m_clause_d N e (by omega)
theorem dX12_goThrough_0 : decode cX12_goThrough 0 = .ok (.aload_n 0, 1) := by decide +kernel
theorem dX12_goThrough_1 : decode cX12_goThrough 1 = .ok (.aload_n 1, 1) := by decide +kernel
theorem dX12_goThrough_2 : decode cX12_goThrough 2 = .ok (.iload_n 2, 1) := by decide +kernel
theorem dX12_goThrough_3 : decode cX12_goThrough 3 = .ok (.iload_n 3, 1) := by decide +kernel
theorem dX12_goThrough_4 : decode cX12_goThrough 4 = .ok (.invokevirtual 210, 3) := by decide +kernel
theorem dX12_goThrough_7 : decode cX12_goThrough 7 = .ok (.aload_n 0, 1) := by decide +kernel
theorem dX12_goThrough_8 : decode cX12_goThrough 8 = .ok (.bipush 121, 2) := by decide +kernel
theorem dX12_goThrough_10 : decode cX12_goThrough 10 = .ok (.putfield 204, 3) := by decide +kernel
theorem dX12_goThrough_13 : decode cX12_goThrough 13 = .ok (.aload_n 0, 1) := by decide +kernel
theorem dX12_goThrough_14 : decode cX12_goThrough 14 = .ok (.iconst 0, 1) := by decide +kernel
theorem dX12_goThrough_15 : decode cX12_goThrough 15 = .ok (.putfield 134, 3) := by decide +kernel
theorem dX12_goThrough_18 : decode cX12_goThrough 18 = .ok (.aload_n 0, 1) := by decide +kernel
theorem dX12_goThrough_19 : decode cX12_goThrough 19 = .ok (.iconst 0, 1) := by decide +kernel
theorem dX12_goThrough_20 : decode cX12_goThrough 20 = .ok (.putfield 200, 3) := by decide +kernel
theorem dX12_goThrough_23 : decode cX12_goThrough 23 = .ok (.aload_n 0, 1) := by decide +kernel
theorem dX12_goThrough_24 : decode cX12_goThrough 24 = .ok (.iconst 0, 1) := by decide +kernel
theorem dX12_goThrough_25 : decode cX12_goThrough 25 = .ok (.putfield 207, 3) := by decide +kernel
theorem dX12_goThrough_28 : decode cX12_goThrough 28 = .ok (.aload_n 0, 1) := by decide +kernel
theorem dX12_goThrough_29 : decode cX12_goThrough 29 = .ok (.invokevirtual 214, 3) := by decide +kernel
theorem dX12_goThrough_32 : decode cX12_goThrough 32 = .ok (.aload_n 0, 1) := by decide +kernel
theorem dX12_goThrough_33 : decode cX12_goThrough 33 = .ok (.getfield 131, 3) := by decide +kernel
theorem dX12_goThrough_36 : decode cX12_goThrough 36 = .ok (.iconst (-1), 1) := by decide +kernel
theorem dX12_goThrough_37 : decode cX12_goThrough 37 = .ok (.if_icmp .ne 29, 3) := by decide +kernel
theorem dX12_goThrough_40 : decode cX12_goThrough 40 = .ok (.aload_n 0, 1) := by decide +kernel
theorem dX12_goThrough_41 : decode cX12_goThrough 41 = .ok (.invokevirtual 141, 3) := by decide +kernel
theorem dX12_goThrough_44 : decode cX12_goThrough 44 = .ok (.bipush 59, 2) := by decide +kernel
theorem dX12_goThrough_46 : decode cX12_goThrough 46 = .ok (.if_icmp .ne 20, 3) := by decide +kernel
theorem dX12_goThrough_49 : decode cX12_goThrough 49 = .ok (.aload_n 0, 1) := by decide +kernel
theorem dX12_goThrough_50 : decode cX12_goThrough 50 = .ok (.dup, 1) := by decide +kernel
theorem dX12_goThrough_51 : decode cX12_goThrough 51 = .ok (.getfield 122, 3) := by decide +kernel
theorem dX12_goThrough_54 : decode cX12_goThrough 54 = .ok (.iconst 1, 1) := by decide +kernel
theorem dX12_goThrough_55 : decode cX12_goThrough 55 = .ok (.iadd, 1) := by decide +kernel
theorem dX12_goThrough_56 : decode cX12_goThrough 56 = .ok (.putfield 122, 3) := by decide +kernel
theorem dX12_goThrough_59 : decode cX12_goThrough 59 = .ok (.aload_n 0, 1) := by decide +kernel
theorem dX12_goThrough_60 : decode cX12_goThrough 60 = .ok (.invokevirtual 214, 3) := by decide +kernel
theorem dX12_goThrough_63 : decode cX12_goThrough 63 = .ok (.goto (-31), 3) := by decide +kernel
theorem dX12_goThrough_66 : decode cX12_goThrough 66 = .ok (.aload_n 0, 1) := by decide +kernel
theorem dX12_goThrough_67 : decode cX12_goThrough 67 = .ok (.getfield 131, 3) := by decide +kernel
theorem dX12_goThrough_70 : decode cX12_goThrough 70 = .ok (.iconst (-1), 1) := by decide +kernel
theorem dX12_goThrough_71 : decode cX12_goThrough 71 = .ok (.if_icmp .ne 16, 3) := by decide +kernel
theorem dX12_goThrough_74 : decode cX12_goThrough 74 = .ok (.aload_n 0, 1) := by decide +kernel
theorem dX12_goThrough_75 : decode cX12_goThrough 75 = .ok (.invokevirtual 141, 3) := by decide +kernel
theorem dX12_goThrough_78 : decode cX12_goThrough 78 = .ok (.iconst (-1), 1) := by decide +kernel
theorem dX12_goThrough_79 : decode cX12_goThrough 79 = .ok (.if_icmp .eq 8, 3) := by decide +kernel
theorem dX12_goThrough_82 : decode cX12_goThrough 82 = .ok (.aload_n 0, 1) := by decide +kernel
theorem dX12_goThrough_83 : decode cX12_goThrough 83 = .ok (.invokevirtual 137, 3) := by decide +kernel
theorem dX12_goThrough_86 : decode cX12_goThrough 86 = .ok (.pop, 1) := by decide +kernel
theorem dX12_goThrough_87 : decode cX12_goThrough 87 = .ok (.return_, 1) := by decide +kernel
def m_goThrough_87 (N : Nat) (w : aw_W) : Option (aw_W) :=
  some w
theorem w_m_goThrough_87 {l : Launch} {K : aw_K} (N d : Nat) (hd : 126 ≤ d) : ∀ (w v : aw_W), m_goThrough_87 N w = some v → aw_AW l K MX12_goThrough (d + 1) 87 [] [] w (none, v) := by
  intro w v h
  unfold m_goThrough_87 at h
  cases h
  exact aw_vret (pc := 87) rfl dX12_goThrough_87
def m_goThrough_66 (N : Nat) (w : aw_W) : Option (aw_W) :=
  if (w 49 11) = (-1) then
    aw_b2 (m_look N w) fun r1 w1 =>
      if r1 = (-1) then
        m_goThrough_87 N w1
      else
        aw_b2 (m_fails N w1) fun r2 w2 =>
          m_goThrough_87 N w2
  else
    m_goThrough_87 N w
theorem w_m_goThrough_66 {l : Launch} {K : aw_K} (N d : Nat) (hd : 126 ≤ d) : ∀ (w v : aw_W), m_goThrough_66 N w = some v → aw_AW l K MX12_goThrough (d + 1) 66 [(0, .inr (.inr 49))] [] w (none, v) := by
  intro w v h
  unfold m_goThrough_66 at h
  refine aw_aload_n (pc := 66) (q := 0) dX12_goThrough_66 rfl ?_
  refine aw_getf (pc := 67) (v := .inl (w 49 11)) dX12_goThrough_67 fl_RX12_131 (by decide) rfl rfl rfl ?_
  refine aw_iconst (pc := 70) dX12_goThrough_70 ⟨by decide, by decide⟩ ?_
  refine aw_icmp_ne (pc := 71) (tgt := 87) dX12_goThrough_71 (by decide) (fun hc => ?_) (fun hc => ?_)
  · rw [if_neg hc] at h
    exact aw_sel [] rfl (w_m_goThrough_87 N d hd  _ _ h)
  · rw [if_pos hc] at h
    refine aw_aload_n (pc := 74) (q := 0) dX12_goThrough_74 rfl ?_
    obtain ⟨r1, w1, h1, h⟩ := aw_b2s h
    refine aw_callV (pc := 75) (as := []) (st := []) (st' := [.inl r1]) dX12_goThrough_75 cv_RX12_141 (by decide) rfl rfl rfl rfl (Nat.le_of_ble_eq_true rfl) (w_m_look N d (by omega) _ _ _ h1) rfl ?_
    refine aw_iconst (pc := 78) dX12_goThrough_78 ⟨by decide, by decide⟩ ?_
    refine aw_icmp_eq (pc := 79) (tgt := 87) dX12_goThrough_79 (by decide) (fun hc => ?_) (fun hc => ?_)
    · rw [if_pos hc] at h
      exact aw_sel [] rfl (w_m_goThrough_87 N d hd  _ _ h)
    · rw [if_neg hc] at h
      refine aw_aload_n (pc := 82) (q := 0) dX12_goThrough_82 rfl ?_
      obtain ⟨r2, w2, h2, h⟩ := aw_b2s h
      refine aw_callV (pc := 83) (as := []) (st := []) (st' := [.inl r2]) dX12_goThrough_83 cv_RX12_137 (by decide) rfl rfl rfl rfl (Nat.le_of_ble_eq_true rfl) (w_m_fails N d (by omega) _ _ _ h2) rfl ?_
      refine aw_pop (pc := 86) dX12_goThrough_86 rfl ?_
      exact aw_sel [] rfl (w_m_goThrough_87 N d hd  _ _ h)
def m_goThrough_32 (N : Nat) : Nat → aw_W → Option (aw_W)
  | 0, _ => none
  | n + 1, w =>
    if (w 49 11) = (-1) then
      aw_b2 (m_look N w) fun r1 w1 =>
        if r1 = 59 then
          aw_b1 (m_clause N (aw_up w1 49 10 (aw_w ((w1 49 10) + 1)))) fun w2 =>
            m_goThrough_32 N n w2
        else
          m_goThrough_66 N w1
    else
      m_goThrough_66 N w
theorem w_m_goThrough_32 {l : Launch} {K : aw_K} (N d : Nat) (hd : 126 ≤ d) : ∀ (n : Nat) (w v : aw_W), m_goThrough_32 N n w = some v → aw_AW l K MX12_goThrough (d + 1) 32 [(0, .inr (.inr 49))] [] w (none, v) := by
  intro n
  induction n with
  | zero => intro w v h; rw [m_goThrough_32] at h; cases h
  | succ n ih =>
    intro w v h
    rw [m_goThrough_32] at h
    refine aw_aload_n (pc := 32) (q := 0) dX12_goThrough_32 rfl ?_
    refine aw_getf (pc := 33) (v := .inl (w 49 11)) dX12_goThrough_33 fl_RX12_131 (by decide) rfl rfl rfl ?_
    refine aw_iconst (pc := 36) dX12_goThrough_36 ⟨by decide, by decide⟩ ?_
    refine aw_icmp_ne (pc := 37) (tgt := 66) dX12_goThrough_37 (by decide) (fun hc => ?_) (fun hc => ?_)
    · rw [if_neg hc] at h
      exact aw_sel [0] rfl (w_m_goThrough_66 N d hd  _ _ h)
    · rw [if_pos hc] at h
      refine aw_aload_n (pc := 40) (q := 0) dX12_goThrough_40 rfl ?_
      obtain ⟨r1, w1, h1, h⟩ := aw_b2s h
      refine aw_callV (pc := 41) (as := []) (st := []) (st' := [.inl r1]) dX12_goThrough_41 cv_RX12_141 (by decide) rfl rfl rfl rfl (Nat.le_of_ble_eq_true rfl) (w_m_look N d (by omega) _ _ _ h1) rfl ?_
      refine aw_bipush (pc := 44) dX12_goThrough_44 (by decide) ⟨by decide, by decide⟩ ?_
      refine aw_icmp_ne (pc := 46) (tgt := 66) dX12_goThrough_46 (by decide) (fun hc => ?_) (fun hc => ?_)
      · rw [if_neg hc] at h
        exact aw_sel [0] rfl (w_m_goThrough_66 N d hd  _ _ h)
      · rw [if_pos hc] at h
        refine aw_aload_n (pc := 49) (q := 0) dX12_goThrough_49 rfl ?_
        refine aw_dup (pc := 50) dX12_goThrough_50 rfl ?_
        refine aw_getf (pc := 51) (v := .inl (w1 49 10)) dX12_goThrough_51 fl_RX12_122 (by decide) rfl rfl rfl ?_
        refine aw_iconst (pc := 54) dX12_goThrough_54 ⟨by decide, by decide⟩ ?_
        refine aw_iadd (pc := 55) dX12_goThrough_55 ?_
        refine aw_puti (pc := 56) dX12_goThrough_56 fp_RX12_122 (by decide) rfl rfl ?_
        refine aw_aload_n (pc := 59) (q := 0) dX12_goThrough_59 rfl ?_
        obtain ⟨w2, h2, h⟩ := aw_b1s h
        refine aw_callV (pc := 60) (as := []) (st := []) (st' := []) dX12_goThrough_60 cv_RX12_214 (by decide) rfl rfl rfl rfl (Nat.le_of_ble_eq_true rfl) (w_m_clause N d (by omega) _ _ h2) rfl ?_
        refine aw_goto (pc := 63) (tgt := 32) dX12_goThrough_63 (by decide) ?_
        exact aw_sel [0] rfl (ih _ _ h)
def m_goThrough (N : Nat) (x2 x3 : Int) (w : aw_W) : Option (aw_W) :=
  aw_b1 (m_opens N x2 x3 w) fun w1 =>
    aw_b1 (m_clause N (aw_up (aw_up (aw_up (aw_up w1 49 13 121) 49 12 0) 49 17 0) 49 14 0)) fun w2 =>
      m_goThrough_32 N N w2
theorem w_m_goThrough_d {l : Launch} {K : aw_K} (N d : Nat) (hd : 126 ≤ d) : ∀ (x2 x3 : Int) (w v : aw_W), m_goThrough N x2 x3 w = some v → aw_Met l K MX12_goThrough (d + 1) [.inr (.inr 49), .inr (.inr 51), .inl x2, .inl x3] w (none, v) := by
  intro x2 x3 w v h
  unfold m_goThrough at h
  refine aw_enter rfl (Nat.le_of_ble_eq_true rfl) ?_
  show aw_AW l K MX12_goThrough (d + 1) 0 [(0, .inr (.inr 49)), (1, .inr (.inr 51)), (2, .inl x2), (3, .inl x3)] [] w (none, v)
  refine aw_aload_n (pc := 0) (q := 0) dX12_goThrough_0 rfl ?_
  refine aw_aload_n (pc := 1) (q := 1) dX12_goThrough_1 rfl ?_
  refine aw_iload_n (pc := 2) (q := 2) dX12_goThrough_2 rfl ?_
  refine aw_iload_n (pc := 3) (q := 3) dX12_goThrough_3 rfl ?_
  obtain ⟨w1, h1, h⟩ := aw_b1s h
  refine aw_callV (pc := 4) (as := [.inr (.inr 51), .inl x2, .inl x3]) (st := []) (st' := []) dX12_goThrough_4 cv_RX12_210 (by decide) rfl rfl rfl rfl (Nat.le_of_ble_eq_true rfl) (w_m_opens N d (by omega) _ _ _ _ h1) rfl ?_
  refine aw_aload_n (pc := 7) (q := 0) dX12_goThrough_7 rfl ?_
  refine aw_bipush (pc := 8) dX12_goThrough_8 (by decide) ⟨by decide, by decide⟩ ?_
  refine aw_puti (pc := 10) dX12_goThrough_10 fp_RX12_204 (by decide) rfl rfl ?_
  refine aw_aload_n (pc := 13) (q := 0) dX12_goThrough_13 rfl ?_
  refine aw_iconst (pc := 14) dX12_goThrough_14 ⟨by decide, by decide⟩ ?_
  refine aw_puti (pc := 15) dX12_goThrough_15 fp_RX12_134 (by decide) rfl rfl ?_
  refine aw_aload_n (pc := 18) (q := 0) dX12_goThrough_18 rfl ?_
  refine aw_iconst (pc := 19) dX12_goThrough_19 ⟨by decide, by decide⟩ ?_
  refine aw_putz (pc := 20) dX12_goThrough_20 fp_RX12_200 (by decide) rfl rfl (by decide) ?_
  refine aw_aload_n (pc := 23) (q := 0) dX12_goThrough_23 rfl ?_
  refine aw_iconst (pc := 24) dX12_goThrough_24 ⟨by decide, by decide⟩ ?_
  refine aw_puti (pc := 25) dX12_goThrough_25 fp_RX12_207 (by decide) rfl rfl ?_
  refine aw_aload_n (pc := 28) (q := 0) dX12_goThrough_28 rfl ?_
  obtain ⟨w2, h2, h⟩ := aw_b1s h
  refine aw_callV (pc := 29) (as := []) (st := []) (st' := []) dX12_goThrough_29 cv_RX12_214 (by decide) rfl rfl rfl rfl (Nat.le_of_ble_eq_true rfl) (w_m_clause N d (by omega) _ _ h2) rfl ?_
  exact aw_sel [0] rfl (w_m_goThrough_32 N d hd  N _ _ h)
theorem w_m_goThrough {l : Launch} {K : aw_K} (N d : Nat) (hd : 127 ≤ d) : ∀ (x2 x3 : Int) (w v : aw_W), m_goThrough N x2 x3 w = some v → aw_Met l K MX12_goThrough (d) [.inr (.inr 49), .inr (.inr 51), .inl x2, .inl x3] w (none, v) := by
  obtain ⟨e, rfl⟩ : ∃ e, d = e + 1 := ⟨d - 1, by omega⟩
  exact w_m_goThrough_d N e (by omega)
theorem dX12_stepOf_0 : decode cX12_stepOf 0 = .ok (.aload_n 0, 1) := by decide +kernel
theorem dX12_stepOf_1 : decode cX12_stepOf 1 = .ok (.getfield 49, 3) := by decide +kernel
theorem dX12_stepOf_4 : decode cX12_stepOf 4 = .ok (.iload_n 1, 1) := by decide +kernel
theorem dX12_stepOf_5 : decode cX12_stepOf 5 = .ok (.iaload, 1) := by decide +kernel
theorem dX12_stepOf_6 : decode cX12_stepOf 6 = .ok (.iconst (-1), 1) := by decide +kernel
theorem dX12_stepOf_7 : decode cX12_stepOf 7 = .ok (.if_icmp .eq 11, 3) := by decide +kernel
theorem dX12_stepOf_10 : decode cX12_stepOf 10 = .ok (.iload_n 1, 1) := by decide +kernel
theorem dX12_stepOf_11 : decode cX12_stepOf 11 = .ok (.aload_n 0, 1) := by decide +kernel
theorem dX12_stepOf_12 : decode cX12_stepOf 12 = .ok (.getfield 68, 3) := by decide +kernel
theorem dX12_stepOf_15 : decode cX12_stepOf 15 = .ok (.if_icmp .ne 5, 3) := by decide +kernel
theorem dX12_stepOf_18 : decode cX12_stepOf 18 = .ok (.iconst 0, 1) := by decide +kernel
theorem dX12_stepOf_19 : decode cX12_stepOf 19 = .ok (.ireturn, 1) := by decide +kernel
theorem dX12_stepOf_20 : decode cX12_stepOf 20 = .ok (.iconst 0, 1) := by decide +kernel
theorem dX12_stepOf_21 : decode cX12_stepOf 21 = .ok (.istore 5, 2) := by decide +kernel
theorem dX12_stepOf_23 : decode cX12_stepOf 23 = .ok (.iconst 0, 1) := by decide +kernel
theorem dX12_stepOf_24 : decode cX12_stepOf 24 = .ok (.istore 6, 2) := by decide +kernel
theorem dX12_stepOf_26 : decode cX12_stepOf 26 = .ok (.iconst 0, 1) := by decide +kernel
theorem dX12_stepOf_27 : decode cX12_stepOf 27 = .ok (.istore 7, 2) := by decide +kernel
theorem dX12_stepOf_29 : decode cX12_stepOf 29 = .ok (.iconst 0, 1) := by decide +kernel
theorem dX12_stepOf_30 : decode cX12_stepOf 30 = .ok (.istore 8, 2) := by decide +kernel
theorem dX12_stepOf_32 : decode cX12_stepOf 32 = .ok (.iload 8, 2) := by decide +kernel
theorem dX12_stepOf_34 : decode cX12_stepOf 34 = .ok (.aload_n 0, 1) := by decide +kernel
theorem dX12_stepOf_35 : decode cX12_stepOf 35 = .ok (.getfield 270, 3) := by decide +kernel
theorem dX12_stepOf_38 : decode cX12_stepOf 38 = .ok (.if_icmp .ge 86, 3) := by decide +kernel
theorem dX12_stepOf_41 : decode cX12_stepOf 41 = .ok (.iload 7, 2) := by decide +kernel
theorem dX12_stepOf_43 : decode cX12_stepOf 43 = .ok (.aload_n 0, 1) := by decide +kernel
theorem dX12_stepOf_44 : decode cX12_stepOf 44 = .ok (.getfield 62, 3) := by decide +kernel
theorem dX12_stepOf_47 : decode cX12_stepOf 47 = .ok (.iload 8, 2) := by decide +kernel
theorem dX12_stepOf_49 : decode cX12_stepOf 49 = .ok (.iaload, 1) := by decide +kernel
theorem dX12_stepOf_50 : decode cX12_stepOf 50 = .ok (.iconst (-1), 1) := by decide +kernel
theorem dX12_stepOf_51 : decode cX12_stepOf 51 = .ok (.if_icmp .eq 7, 3) := by decide +kernel
theorem dX12_stepOf_54 : decode cX12_stepOf 54 = .ok (.iconst 1, 1) := by decide +kernel
theorem dX12_stepOf_55 : decode cX12_stepOf 55 = .ok (.goto 4, 3) := by decide +kernel
theorem dX12_stepOf_58 : decode cX12_stepOf 58 = .ok (.iconst 0, 1) := by decide +kernel
theorem dX12_stepOf_59 : decode cX12_stepOf 59 = .ok (.iadd, 1) := by decide +kernel
theorem dX12_stepOf_60 : decode cX12_stepOf 60 = .ok (.istore 7, 2) := by decide +kernel
theorem dX12_stepOf_62 : decode cX12_stepOf 62 = .ok (.iload 5, 2) := by decide +kernel
theorem dX12_stepOf_64 : decode cX12_stepOf 64 = .ok (.aload_n 0, 1) := by decide +kernel
theorem dX12_stepOf_65 : decode cX12_stepOf 65 = .ok (.iload 8, 2) := by decide +kernel
theorem dX12_stepOf_67 : decode cX12_stepOf 67 = .ok (.iload 4, 2) := by decide +kernel
theorem dX12_stepOf_69 : decode cX12_stepOf 69 = .ok (.invokevirtual 296, 3) := by decide +kernel
theorem dX12_stepOf_72 : decode cX12_stepOf 72 = .ok (.aload_n 0, 1) := by decide +kernel
theorem dX12_stepOf_73 : decode cX12_stepOf 73 = .ok (.iload_n 1, 1) := by decide +kernel
theorem dX12_stepOf_74 : decode cX12_stepOf 74 = .ok (.iload 4, 2) := by decide +kernel
theorem dX12_stepOf_76 : decode cX12_stepOf 76 = .ok (.invokevirtual 296, 3) := by decide +kernel
theorem dX12_stepOf_79 : decode cX12_stepOf 79 = .ok (.if_icmp .le 7, 3) := by decide +kernel
theorem dX12_stepOf_82 : decode cX12_stepOf 82 = .ok (.iconst 1, 1) := by decide +kernel
theorem dX12_stepOf_83 : decode cX12_stepOf 83 = .ok (.goto 4, 3) := by decide +kernel
theorem dX12_stepOf_86 : decode cX12_stepOf 86 = .ok (.iconst 0, 1) := by decide +kernel
theorem dX12_stepOf_87 : decode cX12_stepOf 87 = .ok (.iadd, 1) := by decide +kernel
theorem dX12_stepOf_88 : decode cX12_stepOf 88 = .ok (.istore 5, 2) := by decide +kernel
theorem dX12_stepOf_90 : decode cX12_stepOf 90 = .ok (.iload 6, 2) := by decide +kernel
theorem dX12_stepOf_92 : decode cX12_stepOf 92 = .ok (.aload_n 0, 1) := by decide +kernel
theorem dX12_stepOf_93 : decode cX12_stepOf 93 = .ok (.iload 8, 2) := by decide +kernel
theorem dX12_stepOf_95 : decode cX12_stepOf 95 = .ok (.iload 4, 2) := by decide +kernel
theorem dX12_stepOf_97 : decode cX12_stepOf 97 = .ok (.invokevirtual 296, 3) := by decide +kernel
theorem dX12_stepOf_100 : decode cX12_stepOf 100 = .ok (.aload_n 0, 1) := by decide +kernel
theorem dX12_stepOf_101 : decode cX12_stepOf 101 = .ok (.iload_n 1, 1) := by decide +kernel
theorem dX12_stepOf_102 : decode cX12_stepOf 102 = .ok (.iload 4, 2) := by decide +kernel
theorem dX12_stepOf_104 : decode cX12_stepOf 104 = .ok (.invokevirtual 296, 3) := by decide +kernel
theorem dX12_stepOf_107 : decode cX12_stepOf 107 = .ok (.if_icmp .ge 7, 3) := by decide +kernel
theorem dX12_stepOf_110 : decode cX12_stepOf 110 = .ok (.iconst 1, 1) := by decide +kernel
theorem dX12_stepOf_111 : decode cX12_stepOf 111 = .ok (.goto 4, 3) := by decide +kernel
theorem dX12_stepOf_114 : decode cX12_stepOf 114 = .ok (.iconst 0, 1) := by decide +kernel
theorem dX12_stepOf_115 : decode cX12_stepOf 115 = .ok (.iadd, 1) := by decide +kernel
theorem dX12_stepOf_116 : decode cX12_stepOf 116 = .ok (.istore 6, 2) := by decide +kernel
theorem dX12_stepOf_118 : decode cX12_stepOf 118 = .ok (.iinc 8 1, 3) := by decide +kernel
theorem dX12_stepOf_121 : decode cX12_stepOf 121 = .ok (.goto (-89), 3) := by decide +kernel
theorem dX12_stepOf_124 : decode cX12_stepOf 124 = .ok (.aload_n 0, 1) := by decide +kernel
theorem dX12_stepOf_125 : decode cX12_stepOf 125 = .ok (.getfield 20, 3) := by decide +kernel
theorem dX12_stepOf_128 : decode cX12_stepOf 128 = .ok (.bipush 100, 2) := by decide +kernel
theorem dX12_stepOf_130 : decode cX12_stepOf 130 = .ok (.iload_n 2, 1) := by decide +kernel
theorem dX12_stepOf_131 : decode cX12_stepOf 131 = .ok (.aload_n 0, 1) := by decide +kernel
theorem dX12_stepOf_132 : decode cX12_stepOf 132 = .ok (.iload_n 1, 1) := by decide +kernel
theorem dX12_stepOf_133 : decode cX12_stepOf 133 = .ok (.iload 4, 2) := by decide +kernel
theorem dX12_stepOf_135 : decode cX12_stepOf 135 = .ok (.invokevirtual 296, 3) := by decide +kernel
theorem dX12_stepOf_138 : decode cX12_stepOf 138 = .ok (.isub, 1) := by decide +kernel
theorem dX12_stepOf_139 : decode cX12_stepOf 139 = .ok (.iastore, 1) := by decide +kernel
theorem dX12_stepOf_140 : decode cX12_stepOf 140 = .ok (.aload_n 0, 1) := by decide +kernel
theorem dX12_stepOf_141 : decode cX12_stepOf 141 = .ok (.getfield 20, 3) := by decide +kernel
theorem dX12_stepOf_144 : decode cX12_stepOf 144 = .ok (.bipush 97, 2) := by decide +kernel
theorem dX12_stepOf_146 : decode cX12_stepOf 146 = .ok (.iload 5, 2) := by decide +kernel
theorem dX12_stepOf_148 : decode cX12_stepOf 148 = .ok (.iastore, 1) := by decide +kernel
theorem dX12_stepOf_149 : decode cX12_stepOf 149 = .ok (.aload_n 0, 1) := by decide +kernel
theorem dX12_stepOf_150 : decode cX12_stepOf 150 = .ok (.getfield 20, 3) := by decide +kernel
theorem dX12_stepOf_153 : decode cX12_stepOf 153 = .ok (.bipush 98, 2) := by decide +kernel
theorem dX12_stepOf_155 : decode cX12_stepOf 155 = .ok (.iload 6, 2) := by decide +kernel
theorem dX12_stepOf_157 : decode cX12_stepOf 157 = .ok (.iastore, 1) := by decide +kernel
theorem dX12_stepOf_158 : decode cX12_stepOf 158 = .ok (.aload_n 0, 1) := by decide +kernel
theorem dX12_stepOf_159 : decode cX12_stepOf 159 = .ok (.getfield 20, 3) := by decide +kernel
theorem dX12_stepOf_162 : decode cX12_stepOf 162 = .ok (.bipush 111, 2) := by decide +kernel
theorem dX12_stepOf_164 : decode cX12_stepOf 164 = .ok (.iload 7, 2) := by decide +kernel
theorem dX12_stepOf_166 : decode cX12_stepOf 166 = .ok (.iastore, 1) := by decide +kernel
theorem dX12_stepOf_167 : decode cX12_stepOf 167 = .ok (.aload_n 0, 1) := by decide +kernel
theorem dX12_stepOf_168 : decode cX12_stepOf 168 = .ok (.getfield 20, 3) := by decide +kernel
theorem dX12_stepOf_171 : decode cX12_stepOf 171 = .ok (.bipush 108, 2) := by decide +kernel
theorem dX12_stepOf_173 : decode cX12_stepOf 173 = .ok (.iload_n 3, 1) := by decide +kernel
theorem dX12_stepOf_174 : decode cX12_stepOf 174 = .ok (.iload 4, 2) := by decide +kernel
theorem dX12_stepOf_176 : decode cX12_stepOf 176 = .ok (.isub, 1) := by decide +kernel
theorem dX12_stepOf_177 : decode cX12_stepOf 177 = .ok (.iastore, 1) := by decide +kernel
theorem dX12_stepOf_178 : decode cX12_stepOf 178 = .ok (.aload_n 0, 1) := by decide +kernel
theorem dX12_stepOf_179 : decode cX12_stepOf 179 = .ok (.getfield 20, 3) := by decide +kernel
theorem dX12_stepOf_182 : decode cX12_stepOf 182 = .ok (.bipush 116, 2) := by decide +kernel
theorem dX12_stepOf_184 : decode cX12_stepOf 184 = .ok (.iload 4, 2) := by decide +kernel
theorem dX12_stepOf_186 : decode cX12_stepOf 186 = .ok (.iastore, 1) := by decide +kernel
theorem dX12_stepOf_187 : decode cX12_stepOf 187 = .ok (.aload_n 0, 1) := by decide +kernel
theorem dX12_stepOf_188 : decode cX12_stepOf 188 = .ok (.aload_n 0, 1) := by decide +kernel
theorem dX12_stepOf_189 : decode cX12_stepOf 189 = .ok (.getfield 13, 3) := by decide +kernel
theorem dX12_stepOf_192 : decode cX12_stepOf 192 = .ok (.sipush 160, 3) := by decide +kernel
theorem dX12_stepOf_195 : decode cX12_stepOf 195 = .ok (.aload_n 0, 1) := by decide +kernel
theorem dX12_stepOf_196 : decode cX12_stepOf 196 = .ok (.getfield 49, 3) := by decide +kernel
theorem dX12_stepOf_199 : decode cX12_stepOf 199 = .ok (.iload_n 1, 1) := by decide +kernel
theorem dX12_stepOf_200 : decode cX12_stepOf 200 = .ok (.iaload, 1) := by decide +kernel
theorem dX12_stepOf_201 : decode cX12_stepOf 201 = .ok (.imul, 1) := by decide +kernel
theorem dX12_stepOf_202 : decode cX12_stepOf 202 = .ok (.aload_n 0, 1) := by decide +kernel
theorem dX12_stepOf_203 : decode cX12_stepOf 203 = .ok (.getfield 16, 3) := by decide +kernel
theorem dX12_stepOf_206 : decode cX12_stepOf 206 = .ok (.aload_n 0, 1) := by decide +kernel
theorem dX12_stepOf_207 : decode cX12_stepOf 207 = .ok (.getfield 49, 3) := by decide +kernel
theorem dX12_stepOf_210 : decode cX12_stepOf 210 = .ok (.iload_n 1, 1) := by decide +kernel
theorem dX12_stepOf_211 : decode cX12_stepOf 211 = .ok (.iaload, 1) := by decide +kernel
theorem dX12_stepOf_212 : decode cX12_stepOf 212 = .ok (.iaload, 1) := by decide +kernel
theorem dX12_stepOf_213 : decode cX12_stepOf 213 = .ok (.invokevirtual 262, 3) := by decide +kernel
theorem dX12_stepOf_216 : decode cX12_stepOf 216 = .ok (.iconst 0, 1) := by decide +kernel
theorem dX12_stepOf_217 : decode cX12_stepOf 217 = .ok (.aload_n 0, 1) := by decide +kernel
theorem dX12_stepOf_218 : decode cX12_stepOf 218 = .ok (.getfield 37, 3) := by decide +kernel
theorem dX12_stepOf_221 : decode cX12_stepOf 221 = .ok (.iconst 4, 1) := by decide +kernel
theorem dX12_stepOf_222 : decode cX12_stepOf 222 = .ok (.iload_n 1, 1) := by decide +kernel
theorem dX12_stepOf_223 : decode cX12_stepOf 223 = .ok (.imul, 1) := by decide +kernel
theorem dX12_stepOf_224 : decode cX12_stepOf 224 = .ok (.iconst 0, 1) := by decide +kernel
theorem dX12_stepOf_225 : decode cX12_stepOf 225 = .ok (.iadd, 1) := by decide +kernel
theorem dX12_stepOf_226 : decode cX12_stepOf 226 = .ok (.iaload, 1) := by decide +kernel
theorem dX12_stepOf_227 : decode cX12_stepOf 227 = .ok (.aload_n 0, 1) := by decide +kernel
theorem dX12_stepOf_228 : decode cX12_stepOf 228 = .ok (.getfield 207, 3) := by decide +kernel
theorem dX12_stepOf_231 : decode cX12_stepOf 231 = .ok (.invokestatic 279, 3) := by decide +kernel
theorem dX12_stepOf_234 : decode cX12_stepOf 234 = .ok (.invokestatic 299, 3) := by decide +kernel
theorem dX12_stepOf_237 : decode cX12_stepOf 237 = .ok (.ireturn, 1) := by decide +kernel
def m_stepOf_18 (N : Nat) (w : aw_W) : Option (Int × aw_W) :=
  some (0, w)
theorem w_m_stepOf_18 {l : Launch} {K : aw_K} (N d : Nat) (hd : 127 ≤ d) : ∀ (w : aw_W) (y : Int) (v : aw_W), m_stepOf_18 N w = some (y, v) → aw_AW l K MX12_stepOf (d + 1) 18 [] [] w (some (.inl y), v) := by
  intro w y v h
  unfold m_stepOf_18 at h
  refine aw_iconst (pc := 18) dX12_stepOf_18 ⟨by decide, by decide⟩ ?_
  cases h
  exact aw_iret (pc := 19) rfl dX12_stepOf_19
def m_stepOf_124 (N : Nat) (x1 x2 x3 x4 x5 x6 x7 : Int) (w : aw_W) : Option (Int × aw_W) :=
  aw_b2 (m_goneBy N x1 x4 w) fun r1 w1 =>
    if 0 ≤ x1 ∧ x1 < 6 then
      if 0 ≤ x1 ∧ x1 < 6 then
        if 0 ≤ (w1 58 x1.toNat) ∧ (w1 58 x1.toNat) < 4 then
          aw_b1 (m_goThrough N (aw_w (160 * (w1 58 x1.toNat))) (w1 52 ((w1 58 x1.toNat).toNat)) (aw_up (aw_up (aw_up (aw_up (aw_up (aw_up w1 53 100 (aw_w (x2 - r1))) 53 97 x5) 53 98 x6) 53 111 x7) 53 108 (aw_w (x3 - x4))) 53 116 x4)) fun w2 =>
            if 0 ≤ (aw_w ((aw_w (4 * x1)) + 0)) ∧ (aw_w ((aw_w (4 * x1)) + 0)) < 24 then
              some (aw_mx 0 (aw_mn (w2 54 ((aw_w ((aw_w (4 * x1)) + 0)).toNat)) (w2 49 14)), w2)
            else none
        else none
      else none
    else none
theorem w_m_stepOf_124 {l : Launch} {K : aw_K} (N d : Nat) (hd : 127 ≤ d) : ∀ (x1 x2 x3 x4 x5 x6 x7 : Int) (w : aw_W) (y : Int) (v : aw_W), m_stepOf_124 N x1 x2 x3 x4 x5 x6 x7 w = some (y, v) → aw_AW l K MX12_stepOf (d + 1) 124 [(0, .inr (.inr 49)), (1, .inl x1), (2, .inl x2), (3, .inl x3), (4, .inl x4), (5, .inl x5), (6, .inl x6), (7, .inl x7)] [] w (some (.inl y), v) := by
  intro x1 x2 x3 x4 x5 x6 x7 w y v h
  unfold m_stepOf_124 at h
  refine aw_aload_n (pc := 124) (q := 0) dX12_stepOf_124 rfl ?_
  refine aw_getf (pc := 125) (v := .inr (.inr 53)) dX12_stepOf_125 fl_RX12_20 (by decide) rfl rfl rfl ?_
  refine aw_bipush (pc := 128) dX12_stepOf_128 (by decide) ⟨by decide, by decide⟩ ?_
  refine aw_iload_n (pc := 130) (q := 2) dX12_stepOf_130 rfl ?_
  refine aw_aload_n (pc := 131) (q := 0) dX12_stepOf_131 rfl ?_
  refine aw_iload_n (pc := 132) (q := 1) dX12_stepOf_132 rfl ?_
  refine aw_iload (pc := 133) (q := 4) dX12_stepOf_133 rfl ?_
  obtain ⟨r1, w1, h1, h⟩ := aw_b2s h
  refine aw_callV (pc := 135) (as := [.inl x1, .inl x4]) (st := [.inl x2, .inl 100, .inr (.inr 53)]) (st' := [.inl r1, .inl x2, .inl 100, .inr (.inr 53)]) dX12_stepOf_135 cv_RX12_296 (by decide) rfl rfl rfl rfl (Nat.le_of_ble_eq_true rfl) (w_m_goneBy N d (by omega) _ _ _ _ _ h1) rfl ?_
  refine aw_isub (pc := 138) dX12_stepOf_138 ?_
  refine aw_iast (pc := 139) dX12_stepOf_139 rfl (by decide) (by decide) ?_
  refine aw_aload_n (pc := 140) (q := 0) dX12_stepOf_140 rfl ?_
  refine aw_getf (pc := 141) (v := .inr (.inr 53)) dX12_stepOf_141 fl_RX12_20 (by decide) rfl rfl rfl ?_
  refine aw_bipush (pc := 144) dX12_stepOf_144 (by decide) ⟨by decide, by decide⟩ ?_
  refine aw_iload (pc := 146) (q := 5) dX12_stepOf_146 rfl ?_
  refine aw_iast (pc := 148) dX12_stepOf_148 rfl (by decide) (by decide) ?_
  refine aw_aload_n (pc := 149) (q := 0) dX12_stepOf_149 rfl ?_
  refine aw_getf (pc := 150) (v := .inr (.inr 53)) dX12_stepOf_150 fl_RX12_20 (by decide) rfl rfl rfl ?_
  refine aw_bipush (pc := 153) dX12_stepOf_153 (by decide) ⟨by decide, by decide⟩ ?_
  refine aw_iload (pc := 155) (q := 6) dX12_stepOf_155 rfl ?_
  refine aw_iast (pc := 157) dX12_stepOf_157 rfl (by decide) (by decide) ?_
  refine aw_aload_n (pc := 158) (q := 0) dX12_stepOf_158 rfl ?_
  refine aw_getf (pc := 159) (v := .inr (.inr 53)) dX12_stepOf_159 fl_RX12_20 (by decide) rfl rfl rfl ?_
  refine aw_bipush (pc := 162) dX12_stepOf_162 (by decide) ⟨by decide, by decide⟩ ?_
  refine aw_iload (pc := 164) (q := 7) dX12_stepOf_164 rfl ?_
  refine aw_iast (pc := 166) dX12_stepOf_166 rfl (by decide) (by decide) ?_
  refine aw_aload_n (pc := 167) (q := 0) dX12_stepOf_167 rfl ?_
  refine aw_getf (pc := 168) (v := .inr (.inr 53)) dX12_stepOf_168 fl_RX12_20 (by decide) rfl rfl rfl ?_
  refine aw_bipush (pc := 171) dX12_stepOf_171 (by decide) ⟨by decide, by decide⟩ ?_
  refine aw_iload_n (pc := 173) (q := 3) dX12_stepOf_173 rfl ?_
  refine aw_iload (pc := 174) (q := 4) dX12_stepOf_174 rfl ?_
  refine aw_isub (pc := 176) dX12_stepOf_176 ?_
  refine aw_iast (pc := 177) dX12_stepOf_177 rfl (by decide) (by decide) ?_
  refine aw_aload_n (pc := 178) (q := 0) dX12_stepOf_178 rfl ?_
  refine aw_getf (pc := 179) (v := .inr (.inr 53)) dX12_stepOf_179 fl_RX12_20 (by decide) rfl rfl rfl ?_
  refine aw_bipush (pc := 182) dX12_stepOf_182 (by decide) ⟨by decide, by decide⟩ ?_
  refine aw_iload (pc := 184) (q := 4) dX12_stepOf_184 rfl ?_
  refine aw_iast (pc := 186) dX12_stepOf_186 rfl (by decide) (by decide) ?_
  refine aw_aload_n (pc := 187) (q := 0) dX12_stepOf_187 rfl ?_
  refine aw_aload_n (pc := 188) (q := 0) dX12_stepOf_188 rfl ?_
  refine aw_getf (pc := 189) (v := .inr (.inr 51)) dX12_stepOf_189 fl_RX12_13 (by decide) rfl rfl rfl ?_
  refine aw_sipush (pc := 192) dX12_stepOf_192 (by decide) ⟨by decide, by decide⟩ ?_
  refine aw_aload_n (pc := 195) (q := 0) dX12_stepOf_195 rfl ?_
  refine aw_getf (pc := 196) (v := .inr (.inr 58)) dX12_stepOf_196 fl_RX12_49 (by decide) rfl rfl rfl ?_
  refine aw_iload_n (pc := 199) (q := 1) dX12_stepOf_199 rfl ?_
  obtain ⟨hb, h⟩ := aw_cks h
  refine aw_ialdv (pc := 200) (v := w1 58 x1.toNat) dX12_stepOf_200 rfl hb.1 hb.2 rfl ?_
  refine aw_imul (pc := 201) dX12_stepOf_201 ?_
  refine aw_aload_n (pc := 202) (q := 0) dX12_stepOf_202 rfl ?_
  refine aw_getf (pc := 203) (v := .inr (.inr 52)) dX12_stepOf_203 fl_RX12_16 (by decide) rfl rfl rfl ?_
  refine aw_aload_n (pc := 206) (q := 0) dX12_stepOf_206 rfl ?_
  refine aw_getf (pc := 207) (v := .inr (.inr 58)) dX12_stepOf_207 fl_RX12_49 (by decide) rfl rfl rfl ?_
  refine aw_iload_n (pc := 210) (q := 1) dX12_stepOf_210 rfl ?_
  obtain ⟨hb, h⟩ := aw_cks h
  refine aw_ialdv (pc := 211) (v := w1 58 x1.toNat) dX12_stepOf_211 rfl hb.1 hb.2 rfl ?_
  obtain ⟨hb, h⟩ := aw_cks h
  refine aw_ialdv (pc := 212) (v := w1 52 ((w1 58 x1.toNat).toNat)) dX12_stepOf_212 rfl hb.1 hb.2 rfl ?_
  obtain ⟨w2, h2, h⟩ := aw_b1s h
  refine aw_callV (pc := 213) (as := [.inr (.inr 51), .inl (aw_w (160 * (w1 58 x1.toNat))), .inl (w1 52 ((w1 58 x1.toNat).toNat))]) (st := []) (st' := []) dX12_stepOf_213 cv_RX12_262 (by decide) rfl rfl rfl rfl (Nat.le_of_ble_eq_true rfl) (w_m_goThrough N d (by omega) _ _ _ _ h2) rfl ?_
  refine aw_iconst (pc := 216) dX12_stepOf_216 ⟨by decide, by decide⟩ ?_
  refine aw_aload_n (pc := 217) (q := 0) dX12_stepOf_217 rfl ?_
  refine aw_getf (pc := 218) (v := .inr (.inr 54)) dX12_stepOf_218 fl_RX12_37 (by decide) rfl rfl rfl ?_
  refine aw_iconst (pc := 221) dX12_stepOf_221 ⟨by decide, by decide⟩ ?_
  refine aw_iload_n (pc := 222) (q := 1) dX12_stepOf_222 rfl ?_
  refine aw_imul (pc := 223) dX12_stepOf_223 ?_
  refine aw_iconst (pc := 224) dX12_stepOf_224 ⟨by decide, by decide⟩ ?_
  refine aw_iadd (pc := 225) dX12_stepOf_225 ?_
  obtain ⟨hb, h⟩ := aw_cks h
  refine aw_ialdv (pc := 226) (v := w2 54 ((aw_w ((aw_w (4 * x1)) + 0)).toNat)) dX12_stepOf_226 rfl hb.1 hb.2 rfl ?_
  refine aw_aload_n (pc := 227) (q := 0) dX12_stepOf_227 rfl ?_
  refine aw_getf (pc := 228) (v := .inl (w2 49 14)) dX12_stepOf_228 fl_RX12_207 (by decide) rfl rfl rfl ?_
  refine aw_mmin (pc := 231) dX12_stepOf_231 cm_RX12_279 (Nat.le_of_ble_eq_true rfl) ?_
  refine aw_mmax (pc := 234) dX12_stepOf_234 cm_RX12_299 (Nat.le_of_ble_eq_true rfl) ?_
  cases h
  exact aw_iret (pc := 237) rfl dX12_stepOf_237
def m_stepOf_115 (N : Nat) (k32 : Int → Int → Int → Int → Int → Int → Int → Int → aw_W → Option (Int × aw_W)) (x1 x2 x3 x4 x5 x7 x8 s0 s1 : Int) (w : aw_W) : Option (Int × aw_W) :=
  k32 x1 x2 x3 x4 x5 (aw_w (s1 + s0)) x7 (aw_w (x8 + 1)) w
theorem w_m_stepOf_115 {l : Launch} {K : aw_K} (N d : Nat) (hd : 127 ≤ d) (k32 : Int → Int → Int → Int → Int → Int → Int → Int → aw_W → Option (Int × aw_W)) (hk32 : ∀ (x1 x2 x3 x4 x5 x6 x7 x8 : Int) (w : aw_W) (y : Int) (v : aw_W), k32 x1 x2 x3 x4 x5 x6 x7 x8 w = some (y, v) → aw_AW l K MX12_stepOf (d + 1) 32 [(0, .inr (.inr 49)), (1, .inl x1), (2, .inl x2), (3, .inl x3), (4, .inl x4), (5, .inl x5), (6, .inl x6), (7, .inl x7), (8, .inl x8)] [] w (some (.inl y), v)) : ∀ (x1 x2 x3 x4 x5 x7 x8 s0 s1 : Int) (w : aw_W) (y : Int) (v : aw_W), m_stepOf_115 N k32 x1 x2 x3 x4 x5 x7 x8 s0 s1 w = some (y, v) → aw_AW l K MX12_stepOf (d + 1) 115 [(0, .inr (.inr 49)), (1, .inl x1), (2, .inl x2), (3, .inl x3), (4, .inl x4), (5, .inl x5), (7, .inl x7), (8, .inl x8)] [.inl s0, .inl s1] w (some (.inl y), v) := by
  intro x1 x2 x3 x4 x5 x7 x8 s0 s1 w y v h
  unfold m_stepOf_115 at h
  refine aw_iadd (pc := 115) dX12_stepOf_115 ?_
  refine aw_istore (pc := 116) (ls' := [(6, .inl (aw_w (s1 + s0))), (0, .inr (.inr 49)), (1, .inl x1), (2, .inl x2), (3, .inl x3), (4, .inl x4), (5, .inl x5), (7, .inl x7), (8, .inl x8)]) dX12_stepOf_116 (by decide) rfl ?_
  refine aw_iinc (pc := 118) (q := 8) (ls' := [(8, .inl (aw_w (x8 + 1))), (6, .inl (aw_w (s1 + s0))), (0, .inr (.inr 49)), (1, .inl x1), (2, .inl x2), (3, .inl x3), (4, .inl x4), (5, .inl x5), (7, .inl x7)]) dX12_stepOf_118 rfl (by decide) rfl ?_
  refine aw_goto (pc := 121) (tgt := 32) dX12_stepOf_121 (by decide) ?_
  exact aw_sel [2, 3, 4, 5, 6, 7, 1, 8, 0] rfl (hk32 _ _ _ _ _ _ _ _ _ _ _ h)
def m_stepOf_87 (N : Nat) (k32 : Int → Int → Int → Int → Int → Int → Int → Int → aw_W → Option (Int × aw_W)) (x1 x2 x3 x4 x6 x7 x8 s0 s1 : Int) (w : aw_W) : Option (Int × aw_W) :=
  aw_b2 (m_goneBy N x8 x4 w) fun r1 w1 =>
    aw_b2 (m_goneBy N x1 x4 w1) fun r2 w2 =>
      if r2 ≤ r1 then
        m_stepOf_115 N k32 x1 x2 x3 x4 (aw_w (s1 + s0)) x7 x8 0 x6 w2
      else
        m_stepOf_115 N k32 x1 x2 x3 x4 (aw_w (s1 + s0)) x7 x8 1 x6 w2
theorem w_m_stepOf_87 {l : Launch} {K : aw_K} (N d : Nat) (hd : 127 ≤ d) (k32 : Int → Int → Int → Int → Int → Int → Int → Int → aw_W → Option (Int × aw_W)) (hk32 : ∀ (x1 x2 x3 x4 x5 x6 x7 x8 : Int) (w : aw_W) (y : Int) (v : aw_W), k32 x1 x2 x3 x4 x5 x6 x7 x8 w = some (y, v) → aw_AW l K MX12_stepOf (d + 1) 32 [(0, .inr (.inr 49)), (1, .inl x1), (2, .inl x2), (3, .inl x3), (4, .inl x4), (5, .inl x5), (6, .inl x6), (7, .inl x7), (8, .inl x8)] [] w (some (.inl y), v)) : ∀ (x1 x2 x3 x4 x6 x7 x8 s0 s1 : Int) (w : aw_W) (y : Int) (v : aw_W), m_stepOf_87 N k32 x1 x2 x3 x4 x6 x7 x8 s0 s1 w = some (y, v) → aw_AW l K MX12_stepOf (d + 1) 87 [(0, .inr (.inr 49)), (1, .inl x1), (2, .inl x2), (3, .inl x3), (4, .inl x4), (6, .inl x6), (7, .inl x7), (8, .inl x8)] [.inl s0, .inl s1] w (some (.inl y), v) := by
  intro x1 x2 x3 x4 x6 x7 x8 s0 s1 w y v h
  unfold m_stepOf_87 at h
  refine aw_iadd (pc := 87) dX12_stepOf_87 ?_
  refine aw_istore (pc := 88) (ls' := [(5, .inl (aw_w (s1 + s0))), (0, .inr (.inr 49)), (1, .inl x1), (2, .inl x2), (3, .inl x3), (4, .inl x4), (6, .inl x6), (7, .inl x7), (8, .inl x8)]) dX12_stepOf_88 (by decide) rfl ?_
  refine aw_iload (pc := 90) (q := 6) dX12_stepOf_90 rfl ?_
  refine aw_aload_n (pc := 92) (q := 1) dX12_stepOf_92 rfl ?_
  refine aw_iload (pc := 93) (q := 8) dX12_stepOf_93 rfl ?_
  refine aw_iload (pc := 95) (q := 5) dX12_stepOf_95 rfl ?_
  obtain ⟨r1, w1, h1, h⟩ := aw_b2s h
  refine aw_callV (pc := 97) (as := [.inl x8, .inl x4]) (st := [.inl x6]) (st' := [.inl r1, .inl x6]) dX12_stepOf_97 cv_RX12_296 (by decide) rfl rfl rfl rfl (Nat.le_of_ble_eq_true rfl) (w_m_goneBy N d (by omega) _ _ _ _ _ h1) rfl ?_
  refine aw_aload_n (pc := 100) (q := 1) dX12_stepOf_100 rfl ?_
  refine aw_iload_n (pc := 101) (q := 2) dX12_stepOf_101 rfl ?_
  refine aw_iload (pc := 102) (q := 5) dX12_stepOf_102 rfl ?_
  obtain ⟨r2, w2, h2, h⟩ := aw_b2s h
  refine aw_callV (pc := 104) (as := [.inl x1, .inl x4]) (st := [.inl r1, .inl x6]) (st' := [.inl r2, .inl r1, .inl x6]) dX12_stepOf_104 cv_RX12_296 (by decide) rfl rfl rfl rfl (Nat.le_of_ble_eq_true rfl) (w_m_goneBy N d (by omega) _ _ _ _ _ h2) rfl ?_
  refine aw_icmp_ge (pc := 107) (tgt := 114) dX12_stepOf_107 (by decide) (fun hc => ?_) (fun hc => ?_)
  · rw [if_pos hc] at h
    refine aw_iconst (pc := 114) dX12_stepOf_114 ⟨by decide, by decide⟩ ?_
    exact aw_sel [1, 2, 3, 4, 5, 0, 7, 8] rfl (w_m_stepOf_115 N d hd  _ hk32 _ _ _ _ _ _ _ _ _ _ _ _ h)
  · rw [if_neg hc] at h
    refine aw_iconst (pc := 110) dX12_stepOf_110 ⟨by decide, by decide⟩ ?_
    refine aw_goto (pc := 111) (tgt := 115) dX12_stepOf_111 (by decide) ?_
    exact aw_sel [1, 2, 3, 4, 5, 0, 7, 8] rfl (w_m_stepOf_115 N d hd  _ hk32 _ _ _ _ _ _ _ _ _ _ _ _ h)
def m_stepOf_59 (N : Nat) (k32 : Int → Int → Int → Int → Int → Int → Int → Int → aw_W → Option (Int × aw_W)) (x1 x2 x3 x4 x5 x6 x8 s0 s1 : Int) (w : aw_W) : Option (Int × aw_W) :=
  aw_b2 (m_goneBy N x8 x4 w) fun r1 w1 =>
    aw_b2 (m_goneBy N x1 x4 w1) fun r2 w2 =>
      if r1 ≤ r2 then
        m_stepOf_87 N k32 x1 x2 x3 x4 x6 (aw_w (s1 + s0)) x8 0 x5 w2
      else
        m_stepOf_87 N k32 x1 x2 x3 x4 x6 (aw_w (s1 + s0)) x8 1 x5 w2
theorem w_m_stepOf_59 {l : Launch} {K : aw_K} (N d : Nat) (hd : 127 ≤ d) (k32 : Int → Int → Int → Int → Int → Int → Int → Int → aw_W → Option (Int × aw_W)) (hk32 : ∀ (x1 x2 x3 x4 x5 x6 x7 x8 : Int) (w : aw_W) (y : Int) (v : aw_W), k32 x1 x2 x3 x4 x5 x6 x7 x8 w = some (y, v) → aw_AW l K MX12_stepOf (d + 1) 32 [(0, .inr (.inr 49)), (1, .inl x1), (2, .inl x2), (3, .inl x3), (4, .inl x4), (5, .inl x5), (6, .inl x6), (7, .inl x7), (8, .inl x8)] [] w (some (.inl y), v)) : ∀ (x1 x2 x3 x4 x5 x6 x8 s0 s1 : Int) (w : aw_W) (y : Int) (v : aw_W), m_stepOf_59 N k32 x1 x2 x3 x4 x5 x6 x8 s0 s1 w = some (y, v) → aw_AW l K MX12_stepOf (d + 1) 59 [(0, .inr (.inr 49)), (1, .inl x1), (2, .inl x2), (3, .inl x3), (4, .inl x4), (5, .inl x5), (6, .inl x6), (8, .inl x8)] [.inl s0, .inl s1] w (some (.inl y), v) := by
  intro x1 x2 x3 x4 x5 x6 x8 s0 s1 w y v h
  unfold m_stepOf_59 at h
  refine aw_iadd (pc := 59) dX12_stepOf_59 ?_
  refine aw_istore (pc := 60) (ls' := [(7, .inl (aw_w (s1 + s0))), (0, .inr (.inr 49)), (1, .inl x1), (2, .inl x2), (3, .inl x3), (4, .inl x4), (5, .inl x5), (6, .inl x6), (8, .inl x8)]) dX12_stepOf_60 (by decide) rfl ?_
  refine aw_iload (pc := 62) (q := 6) dX12_stepOf_62 rfl ?_
  refine aw_aload_n (pc := 64) (q := 1) dX12_stepOf_64 rfl ?_
  refine aw_iload (pc := 65) (q := 8) dX12_stepOf_65 rfl ?_
  refine aw_iload (pc := 67) (q := 5) dX12_stepOf_67 rfl ?_
  obtain ⟨r1, w1, h1, h⟩ := aw_b2s h
  refine aw_callV (pc := 69) (as := [.inl x8, .inl x4]) (st := [.inl x5]) (st' := [.inl r1, .inl x5]) dX12_stepOf_69 cv_RX12_296 (by decide) rfl rfl rfl rfl (Nat.le_of_ble_eq_true rfl) (w_m_goneBy N d (by omega) _ _ _ _ _ h1) rfl ?_
  refine aw_aload_n (pc := 72) (q := 1) dX12_stepOf_72 rfl ?_
  refine aw_iload_n (pc := 73) (q := 2) dX12_stepOf_73 rfl ?_
  refine aw_iload (pc := 74) (q := 5) dX12_stepOf_74 rfl ?_
  obtain ⟨r2, w2, h2, h⟩ := aw_b2s h
  refine aw_callV (pc := 76) (as := [.inl x1, .inl x4]) (st := [.inl r1, .inl x5]) (st' := [.inl r2, .inl r1, .inl x5]) dX12_stepOf_76 cv_RX12_296 (by decide) rfl rfl rfl rfl (Nat.le_of_ble_eq_true rfl) (w_m_goneBy N d (by omega) _ _ _ _ _ h2) rfl ?_
  refine aw_icmp_le (pc := 79) (tgt := 86) dX12_stepOf_79 (by decide) (fun hc => ?_) (fun hc => ?_)
  · rw [if_pos hc] at h
    refine aw_iconst (pc := 86) dX12_stepOf_86 ⟨by decide, by decide⟩ ?_
    exact aw_sel [1, 2, 3, 4, 5, 7, 0, 8] rfl (w_m_stepOf_87 N d hd  _ hk32 _ _ _ _ _ _ _ _ _ _ _ _ h)
  · rw [if_neg hc] at h
    refine aw_iconst (pc := 82) dX12_stepOf_82 ⟨by decide, by decide⟩ ?_
    refine aw_goto (pc := 83) (tgt := 87) dX12_stepOf_83 (by decide) ?_
    exact aw_sel [1, 2, 3, 4, 5, 7, 0, 8] rfl (w_m_stepOf_87 N d hd  _ hk32 _ _ _ _ _ _ _ _ _ _ _ _ h)
def m_stepOf_32 (N : Nat) : Nat → Int → Int → Int → Int → Int → Int → Int → Int → aw_W → Option (Int × aw_W)
  | 0, _, _, _, _, _, _, _, _, _ => none
  | n + 1, x1, x2, x3, x4, x5, x6, x7, x8, w =>
    if (w 49 22) ≤ x8 then
      m_stepOf_124 N x1 x2 x3 x4 x5 x6 x7 w
    else
      if 0 ≤ x8 ∧ x8 < 6 then
        if (w 62 x8.toNat) = (-1) then
          m_stepOf_59 N (m_stepOf_32 N n) x1 x2 x3 x4 x5 x6 x8 0 x7 w
        else
          m_stepOf_59 N (m_stepOf_32 N n) x1 x2 x3 x4 x5 x6 x8 1 x7 w
      else none
theorem w_m_stepOf_32 {l : Launch} {K : aw_K} (N d : Nat) (hd : 127 ≤ d) : ∀ (n : Nat) (x1 x2 x3 x4 x5 x6 x7 x8 : Int) (w : aw_W) (y : Int) (v : aw_W), m_stepOf_32 N n x1 x2 x3 x4 x5 x6 x7 x8 w = some (y, v) → aw_AW l K MX12_stepOf (d + 1) 32 [(0, .inr (.inr 49)), (1, .inl x1), (2, .inl x2), (3, .inl x3), (4, .inl x4), (5, .inl x5), (6, .inl x6), (7, .inl x7), (8, .inl x8)] [] w (some (.inl y), v) := by
  intro n
  induction n with
  | zero => intro x1 x2 x3 x4 x5 x6 x7 x8 w y v h; rw [m_stepOf_32] at h; cases h
  | succ n ih =>
    intro x1 x2 x3 x4 x5 x6 x7 x8 w y v h
    rw [m_stepOf_32] at h
    refine aw_iload (pc := 32) (q := 8) dX12_stepOf_32 rfl ?_
    refine aw_aload_n (pc := 34) (q := 0) dX12_stepOf_34 rfl ?_
    refine aw_getf (pc := 35) (v := .inl (w 49 22)) dX12_stepOf_35 fl_RX12_270 (by decide) rfl rfl rfl ?_
    refine aw_icmp_ge (pc := 38) (tgt := 124) dX12_stepOf_38 (by decide) (fun hc => ?_) (fun hc => ?_)
    · rw [if_pos hc] at h
      exact aw_sel [0, 1, 2, 3, 4, 5, 6, 7] rfl (w_m_stepOf_124 N d hd  _ _ _ _ _ _ _ _ _ _ h)
    · rw [if_neg hc] at h
      refine aw_iload (pc := 41) (q := 7) dX12_stepOf_41 rfl ?_
      refine aw_aload_n (pc := 43) (q := 0) dX12_stepOf_43 rfl ?_
      refine aw_getf (pc := 44) (v := .inr (.inr 62)) dX12_stepOf_44 fl_RX12_62 (by decide) rfl rfl rfl ?_
      refine aw_iload (pc := 47) (q := 8) dX12_stepOf_47 rfl ?_
      obtain ⟨hb, h⟩ := aw_cks h
      refine aw_ialdv (pc := 49) (v := w 62 x8.toNat) dX12_stepOf_49 rfl hb.1 hb.2 rfl ?_
      refine aw_iconst (pc := 50) dX12_stepOf_50 ⟨by decide, by decide⟩ ?_
      refine aw_icmp_eq (pc := 51) (tgt := 58) dX12_stepOf_51 (by decide) (fun hc => ?_) (fun hc => ?_)
      · rw [if_pos hc] at h
        refine aw_iconst (pc := 58) dX12_stepOf_58 ⟨by decide, by decide⟩ ?_
        exact aw_sel [0, 1, 2, 3, 4, 5, 6, 8] rfl (w_m_stepOf_59 N d hd  _ ih _ _ _ _ _ _ _ _ _ _ _ _ h)
      · rw [if_neg hc] at h
        refine aw_iconst (pc := 54) dX12_stepOf_54 ⟨by decide, by decide⟩ ?_
        refine aw_goto (pc := 55) (tgt := 59) dX12_stepOf_55 (by decide) ?_
        exact aw_sel [0, 1, 2, 3, 4, 5, 6, 8] rfl (w_m_stepOf_59 N d hd  _ ih _ _ _ _ _ _ _ _ _ _ _ _ h)
def m_stepOf (N : Nat) (x1 x2 x3 x4 : Int) (w : aw_W) : Option (Int × aw_W) :=
  if 0 ≤ x1 ∧ x1 < 6 then
    if (w 58 x1.toNat) = (-1) then
      m_stepOf_18 N w
    else
      if x1 = (w 49 32) then
        m_stepOf_18 N w
      else
        m_stepOf_32 N N x1 x2 x3 x4 0 0 0 0 w
  else none
theorem w_m_stepOf_d {l : Launch} {K : aw_K} (N d : Nat) (hd : 127 ≤ d) : ∀ (x1 x2 x3 x4 : Int) (w : aw_W) (y : Int) (v : aw_W), m_stepOf N x1 x2 x3 x4 w = some (y, v) → aw_Met l K MX12_stepOf (d + 1) [.inr (.inr 49), .inl x1, .inl x2, .inl x3, .inl x4] w (some (.inl y), v) := by
  intro x1 x2 x3 x4 w y v h
  unfold m_stepOf at h
  refine aw_enter rfl (Nat.le_of_ble_eq_true rfl) ?_
  show aw_AW l K MX12_stepOf (d + 1) 0 [(0, .inr (.inr 49)), (1, .inl x1), (2, .inl x2), (3, .inl x3), (4, .inl x4)] [] w (some (.inl y), v)
  refine aw_aload_n (pc := 0) (q := 0) dX12_stepOf_0 rfl ?_
  refine aw_getf (pc := 1) (v := .inr (.inr 58)) dX12_stepOf_1 fl_RX12_49 (by decide) rfl rfl rfl ?_
  refine aw_iload_n (pc := 4) (q := 1) dX12_stepOf_4 rfl ?_
  obtain ⟨hb, h⟩ := aw_cks h
  refine aw_ialdv (pc := 5) (v := w 58 x1.toNat) dX12_stepOf_5 rfl hb.1 hb.2 rfl ?_
  refine aw_iconst (pc := 6) dX12_stepOf_6 ⟨by decide, by decide⟩ ?_
  refine aw_icmp_eq (pc := 7) (tgt := 18) dX12_stepOf_7 (by decide) (fun hc => ?_) (fun hc => ?_)
  · rw [if_pos hc] at h
    exact aw_sel [] rfl (w_m_stepOf_18 N d hd  _ _ _ h)
  · rw [if_neg hc] at h
    refine aw_iload_n (pc := 10) (q := 1) dX12_stepOf_10 rfl ?_
    refine aw_aload_n (pc := 11) (q := 0) dX12_stepOf_11 rfl ?_
    refine aw_getf (pc := 12) (v := .inl (w 49 32)) dX12_stepOf_12 fl_RX12_68 (by decide) rfl rfl rfl ?_
    refine aw_icmp_ne (pc := 15) (tgt := 20) dX12_stepOf_15 (by decide) (fun hc => ?_) (fun hc => ?_)
    · rw [if_neg hc] at h
      refine aw_iconst (pc := 20) dX12_stepOf_20 ⟨by decide, by decide⟩ ?_
      refine aw_istore (pc := 21) (ls' := [(5, .inl 0), (0, .inr (.inr 49)), (1, .inl x1), (2, .inl x2), (3, .inl x3), (4, .inl x4)]) dX12_stepOf_21 (by decide) rfl ?_
      refine aw_iconst (pc := 23) dX12_stepOf_23 ⟨by decide, by decide⟩ ?_
      refine aw_istore (pc := 24) (ls' := [(6, .inl 0), (5, .inl 0), (0, .inr (.inr 49)), (1, .inl x1), (2, .inl x2), (3, .inl x3), (4, .inl x4)]) dX12_stepOf_24 (by decide) rfl ?_
      refine aw_iconst (pc := 26) dX12_stepOf_26 ⟨by decide, by decide⟩ ?_
      refine aw_istore (pc := 27) (ls' := [(7, .inl 0), (6, .inl 0), (5, .inl 0), (0, .inr (.inr 49)), (1, .inl x1), (2, .inl x2), (3, .inl x3), (4, .inl x4)]) dX12_stepOf_27 (by decide) rfl ?_
      refine aw_iconst (pc := 29) dX12_stepOf_29 ⟨by decide, by decide⟩ ?_
      refine aw_istore (pc := 30) (ls' := [(8, .inl 0), (7, .inl 0), (6, .inl 0), (5, .inl 0), (0, .inr (.inr 49)), (1, .inl x1), (2, .inl x2), (3, .inl x3), (4, .inl x4)]) dX12_stepOf_30 (by decide) rfl ?_
      exact aw_sel [4, 5, 6, 7, 8, 3, 2, 1, 0] rfl (w_m_stepOf_32 N d hd  N _ _ _ _ _ _ _ _ _ _ _ h)
    · rw [if_pos hc] at h
      exact aw_sel [] rfl (w_m_stepOf_18 N d hd  _ _ _ h)
theorem w_m_stepOf {l : Launch} {K : aw_K} (N d : Nat) (hd : 128 ≤ d) : ∀ (x1 x2 x3 x4 : Int) (w : aw_W) (y : Int) (v : aw_W), m_stepOf N x1 x2 x3 x4 w = some (y, v) → aw_Met l K MX12_stepOf (d) [.inr (.inr 49), .inl x1, .inl x2, .inl x3, .inl x4] w (some (.inl y), v) := by
  obtain ⟨e, rfl⟩ : ∃ e, d = e + 1 := ⟨d - 1, by omega⟩
  exact w_m_stepOf_d N e (by omega)
theorem dX12_run_0 : decode cX12_run 0 = .ok (.iconst 0, 1) := by decide +kernel
theorem dX12_run_1 : decode cX12_run 1 = .ok (.istore_n 3, 1) := by decide +kernel
theorem dX12_run_2 : decode cX12_run 2 = .ok (.aload_n 0, 1) := by decide +kernel
theorem dX12_run_3 : decode cX12_run 3 = .ok (.iconst (-1), 1) := by decide +kernel
theorem dX12_run_4 : decode cX12_run 4 = .ok (.putfield 301, 3) := by decide +kernel
theorem dX12_run_7 : decode cX12_run 7 = .ok (.iconst 0, 1) := by decide +kernel
theorem dX12_run_8 : decode cX12_run 8 = .ok (.istore 4, 2) := by decide +kernel
theorem dX12_run_10 : decode cX12_run 10 = .ok (.iload 4, 2) := by decide +kernel
theorem dX12_run_12 : decode cX12_run 12 = .ok (.bipush 6, 2) := by decide +kernel
theorem dX12_run_14 : decode cX12_run 14 = .ok (.if_icmp .ge 25, 3) := by decide +kernel
theorem dX12_run_17 : decode cX12_run 17 = .ok (.aload_n 0, 1) := by decide +kernel
theorem dX12_run_18 : decode cX12_run 18 = .ok (.getfield 62, 3) := by decide +kernel
theorem dX12_run_21 : decode cX12_run 21 = .ok (.iload 4, 2) := by decide +kernel
theorem dX12_run_23 : decode cX12_run 23 = .ok (.iconst (-1), 1) := by decide +kernel
theorem dX12_run_24 : decode cX12_run 24 = .ok (.iastore, 1) := by decide +kernel
theorem dX12_run_25 : decode cX12_run 25 = .ok (.aload_n 0, 1) := by decide +kernel
theorem dX12_run_26 : decode cX12_run 26 = .ok (.getfield 59, 3) := by decide +kernel
theorem dX12_run_29 : decode cX12_run 29 = .ok (.iload 4, 2) := by decide +kernel
theorem dX12_run_31 : decode cX12_run 31 = .ok (.iconst 0, 1) := by decide +kernel
theorem dX12_run_32 : decode cX12_run 32 = .ok (.iastore, 1) := by decide +kernel
theorem dX12_run_33 : decode cX12_run 33 = .ok (.iinc 4 1, 3) := by decide +kernel
theorem dX12_run_36 : decode cX12_run 36 = .ok (.goto (-26), 3) := by decide +kernel
theorem dX12_run_39 : decode cX12_run 39 = .ok (.iconst 0, 1) := by decide +kernel
theorem dX12_run_40 : decode cX12_run 40 = .ok (.istore 4, 2) := by decide +kernel
theorem dX12_run_42 : decode cX12_run 42 = .ok (.iload 4, 2) := by decide +kernel
theorem dX12_run_44 : decode cX12_run 44 = .ok (.iload_n 2, 1) := by decide +kernel
theorem dX12_run_45 : decode cX12_run 45 = .ok (.if_icmp .ge 183, 3) := by decide +kernel
theorem dX12_run_48 : decode cX12_run 48 = .ok (.iload_n 3, 1) := by decide +kernel
theorem dX12_run_49 : decode cX12_run 49 = .ok (.aload_n 0, 1) := by decide +kernel
theorem dX12_run_50 : decode cX12_run 50 = .ok (.getfield 270, 3) := by decide +kernel
theorem dX12_run_53 : decode cX12_run 53 = .ok (.if_icmp .ge 7, 3) := by decide +kernel
theorem dX12_run_56 : decode cX12_run 56 = .ok (.iconst 1, 1) := by decide +kernel
theorem dX12_run_57 : decode cX12_run 57 = .ok (.goto 4, 3) := by decide +kernel
theorem dX12_run_60 : decode cX12_run 60 = .ok (.iconst 0, 1) := by decide +kernel
theorem dX12_run_61 : decode cX12_run 61 = .ok (.istore 5, 2) := by decide +kernel
theorem dX12_run_63 : decode cX12_run 63 = .ok (.iload 5, 2) := by decide +kernel
theorem dX12_run_65 : decode cX12_run 65 = .ok (.ifCond .eq 9, 3) := by decide +kernel
theorem dX12_run_68 : decode cX12_run 68 = .ok (.aload_n 0, 1) := by decide +kernel
theorem dX12_run_69 : decode cX12_run 69 = .ok (.iload 4, 2) := by decide +kernel
theorem dX12_run_71 : decode cX12_run 71 = .ok (.putfield 301, 3) := by decide +kernel
theorem dX12_run_74 : decode cX12_run 74 = .ok (.iconst 0, 1) := by decide +kernel
theorem dX12_run_75 : decode cX12_run 75 = .ok (.istore 6, 2) := by decide +kernel
theorem dX12_run_77 : decode cX12_run 77 = .ok (.iload 6, 2) := by decide +kernel
theorem dX12_run_79 : decode cX12_run 79 = .ok (.aload_n 0, 1) := by decide +kernel
theorem dX12_run_80 : decode cX12_run 80 = .ok (.getfield 270, 3) := by decide +kernel
theorem dX12_run_83 : decode cX12_run 83 = .ok (.if_icmp .ge 46, 3) := by decide +kernel
theorem dX12_run_86 : decode cX12_run 86 = .ok (.aload_n 0, 1) := by decide +kernel
theorem dX12_run_87 : decode cX12_run 87 = .ok (.getfield 65, 3) := by decide +kernel
theorem dX12_run_90 : decode cX12_run 90 = .ok (.iload 6, 2) := by decide +kernel
theorem dX12_run_92 : decode cX12_run 92 = .ok (.iload 5, 2) := by decide +kernel
theorem dX12_run_94 : decode cX12_run 94 = .ok (.ifCond .eq 27, 3) := by decide +kernel
theorem dX12_run_97 : decode cX12_run 97 = .ok (.aload_n 0, 1) := by decide +kernel
theorem dX12_run_98 : decode cX12_run 98 = .ok (.getfield 62, 3) := by decide +kernel
theorem dX12_run_101 : decode cX12_run 101 = .ok (.iload 6, 2) := by decide +kernel
theorem dX12_run_103 : decode cX12_run 103 = .ok (.iaload, 1) := by decide +kernel
theorem dX12_run_104 : decode cX12_run 104 = .ok (.iconst (-1), 1) := by decide +kernel
theorem dX12_run_105 : decode cX12_run 105 = .ok (.if_icmp .ne 16, 3) := by decide +kernel
theorem dX12_run_108 : decode cX12_run 108 = .ok (.aload_n 0, 1) := by decide +kernel
theorem dX12_run_109 : decode cX12_run 109 = .ok (.iload 6, 2) := by decide +kernel
theorem dX12_run_111 : decode cX12_run 111 = .ok (.iload_n 1, 1) := by decide +kernel
theorem dX12_run_112 : decode cX12_run 112 = .ok (.iload_n 2, 1) := by decide +kernel
theorem dX12_run_113 : decode cX12_run 113 = .ok (.iload 4, 2) := by decide +kernel
theorem dX12_run_115 : decode cX12_run 115 = .ok (.invokevirtual 304, 3) := by decide +kernel
theorem dX12_run_118 : decode cX12_run 118 = .ok (.goto 4, 3) := by decide +kernel
theorem dX12_run_121 : decode cX12_run 121 = .ok (.iconst 0, 1) := by decide +kernel
theorem dX12_run_122 : decode cX12_run 122 = .ok (.iastore, 1) := by decide +kernel
theorem dX12_run_123 : decode cX12_run 123 = .ok (.iinc 6 1, 3) := by decide +kernel
theorem dX12_run_126 : decode cX12_run 126 = .ok (.goto (-49), 3) := by decide +kernel
theorem dX12_run_129 : decode cX12_run 129 = .ok (.iconst 0, 1) := by decide +kernel
theorem dX12_run_130 : decode cX12_run 130 = .ok (.istore 6, 2) := by decide +kernel
theorem dX12_run_132 : decode cX12_run 132 = .ok (.iload 6, 2) := by decide +kernel
theorem dX12_run_134 : decode cX12_run 134 = .ok (.aload_n 0, 1) := by decide +kernel
theorem dX12_run_135 : decode cX12_run 135 = .ok (.getfield 270, 3) := by decide +kernel
theorem dX12_run_138 : decode cX12_run 138 = .ok (.if_icmp .ge 84, 3) := by decide +kernel
theorem dX12_run_141 : decode cX12_run 141 = .ok (.aload_n 0, 1) := by decide +kernel
theorem dX12_run_142 : decode cX12_run 142 = .ok (.getfield 59, 3) := by decide +kernel
theorem dX12_run_145 : decode cX12_run 145 = .ok (.bipush 6, 2) := by decide +kernel
theorem dX12_run_147 : decode cX12_run 147 = .ok (.iload 4, 2) := by decide +kernel
theorem dX12_run_149 : decode cX12_run 149 = .ok (.iconst 1, 1) := by decide +kernel
theorem dX12_run_150 : decode cX12_run 150 = .ok (.iadd, 1) := by decide +kernel
theorem dX12_run_151 : decode cX12_run 151 = .ok (.imul, 1) := by decide +kernel
theorem dX12_run_152 : decode cX12_run 152 = .ok (.iload 6, 2) := by decide +kernel
theorem dX12_run_154 : decode cX12_run 154 = .ok (.iadd, 1) := by decide +kernel
theorem dX12_run_155 : decode cX12_run 155 = .ok (.iload_n 1, 1) := by decide +kernel
theorem dX12_run_156 : decode cX12_run 156 = .ok (.aload_n 0, 1) := by decide +kernel
theorem dX12_run_157 : decode cX12_run 157 = .ok (.iload 6, 2) := by decide +kernel
theorem dX12_run_159 : decode cX12_run 159 = .ok (.iload 4, 2) := by decide +kernel
theorem dX12_run_161 : decode cX12_run 161 = .ok (.invokevirtual 296, 3) := by decide +kernel
theorem dX12_run_164 : decode cX12_run 164 = .ok (.aload_n 0, 1) := by decide +kernel
theorem dX12_run_165 : decode cX12_run 165 = .ok (.getfield 65, 3) := by decide +kernel
theorem dX12_run_168 : decode cX12_run 168 = .ok (.iload 6, 2) := by decide +kernel
theorem dX12_run_170 : decode cX12_run 170 = .ok (.iaload, 1) := by decide +kernel
theorem dX12_run_171 : decode cX12_run 171 = .ok (.iadd, 1) := by decide +kernel
theorem dX12_run_172 : decode cX12_run 172 = .ok (.invokestatic 279, 3) := by decide +kernel
theorem dX12_run_175 : decode cX12_run 175 = .ok (.iastore, 1) := by decide +kernel
theorem dX12_run_176 : decode cX12_run 176 = .ok (.aload_n 0, 1) := by decide +kernel
theorem dX12_run_177 : decode cX12_run 177 = .ok (.getfield 62, 3) := by decide +kernel
theorem dX12_run_180 : decode cX12_run 180 = .ok (.iload 6, 2) := by decide +kernel
theorem dX12_run_182 : decode cX12_run 182 = .ok (.iaload, 1) := by decide +kernel
theorem dX12_run_183 : decode cX12_run 183 = .ok (.iconst (-1), 1) := by decide +kernel
theorem dX12_run_184 : decode cX12_run 184 = .ok (.if_icmp .ne 32, 3) := by decide +kernel
theorem dX12_run_187 : decode cX12_run 187 = .ok (.aload_n 0, 1) := by decide +kernel
theorem dX12_run_188 : decode cX12_run 188 = .ok (.iload 6, 2) := by decide +kernel
theorem dX12_run_190 : decode cX12_run 190 = .ok (.iload 4, 2) := by decide +kernel
theorem dX12_run_192 : decode cX12_run 192 = .ok (.iconst 1, 1) := by decide +kernel
theorem dX12_run_193 : decode cX12_run 193 = .ok (.iadd, 1) := by decide +kernel
theorem dX12_run_194 : decode cX12_run 194 = .ok (.invokevirtual 296, 3) := by decide +kernel
theorem dX12_run_197 : decode cX12_run 197 = .ok (.iload_n 1, 1) := by decide +kernel
theorem dX12_run_198 : decode cX12_run 198 = .ok (.if_icmp .ge 6, 3) := by decide +kernel
theorem dX12_run_201 : decode cX12_run 201 = .ok (.goto 15, 3) := by decide +kernel
theorem dX12_run_204 : decode cX12_run 204 = .ok (.aload_n 0, 1) := by decide +kernel
theorem dX12_run_205 : decode cX12_run 205 = .ok (.getfield 62, 3) := by decide +kernel
theorem dX12_run_208 : decode cX12_run 208 = .ok (.iload 6, 2) := by decide +kernel
theorem dX12_run_210 : decode cX12_run 210 = .ok (.iload 4, 2) := by decide +kernel
theorem dX12_run_212 : decode cX12_run 212 = .ok (.iastore, 1) := by decide +kernel
theorem dX12_run_213 : decode cX12_run 213 = .ok (.iinc 3 1, 3) := by decide +kernel
theorem dX12_run_216 : decode cX12_run 216 = .ok (.iinc 6 1, 3) := by decide +kernel
theorem dX12_run_219 : decode cX12_run 219 = .ok (.goto (-87), 3) := by decide +kernel
theorem dX12_run_222 : decode cX12_run 222 = .ok (.iinc 4 1, 3) := by decide +kernel
theorem dX12_run_225 : decode cX12_run 225 = .ok (.goto (-183), 3) := by decide +kernel
theorem dX12_run_228 : decode cX12_run 228 = .ok (.iconst 0, 1) := by decide +kernel
theorem dX12_run_229 : decode cX12_run 229 = .ok (.istore 4, 2) := by decide +kernel
theorem dX12_run_231 : decode cX12_run 231 = .ok (.iload 4, 2) := by decide +kernel
theorem dX12_run_233 : decode cX12_run 233 = .ok (.aload_n 0, 1) := by decide +kernel
theorem dX12_run_234 : decode cX12_run 234 = .ok (.getfield 270, 3) := by decide +kernel
theorem dX12_run_237 : decode cX12_run 237 = .ok (.if_icmp .ge 47, 3) := by decide +kernel
theorem dX12_run_240 : decode cX12_run 240 = .ok (.aload_n 0, 1) := by decide +kernel
theorem dX12_run_241 : decode cX12_run 241 = .ok (.getfield 55, 3) := by decide +kernel
theorem dX12_run_244 : decode cX12_run 244 = .ok (.iload 4, 2) := by decide +kernel
theorem dX12_run_246 : decode cX12_run 246 = .ok (.aload_n 0, 1) := by decide +kernel
theorem dX12_run_247 : decode cX12_run 247 = .ok (.getfield 62, 3) := by decide +kernel
theorem dX12_run_250 : decode cX12_run 250 = .ok (.iload 4, 2) := by decide +kernel
theorem dX12_run_252 : decode cX12_run 252 = .ok (.iaload, 1) := by decide +kernel
theorem dX12_run_253 : decode cX12_run 253 = .ok (.iconst (-1), 1) := by decide +kernel
theorem dX12_run_254 : decode cX12_run 254 = .ok (.if_icmp .ne 7, 3) := by decide +kernel
theorem dX12_run_257 : decode cX12_run 257 = .ok (.iconst 1, 1) := by decide +kernel
theorem dX12_run_258 : decode cX12_run 258 = .ok (.goto 4, 3) := by decide +kernel
theorem dX12_run_261 : decode cX12_run 261 = .ok (.iconst 0, 1) := by decide +kernel
theorem dX12_run_262 : decode cX12_run 262 = .ok (.bastore, 1) := by decide +kernel
theorem dX12_run_263 : decode cX12_run 263 = .ok (.aload_n 0, 1) := by decide +kernel
theorem dX12_run_264 : decode cX12_run 264 = .ok (.getfield 52, 3) := by decide +kernel
theorem dX12_run_267 : decode cX12_run 267 = .ok (.iload 4, 2) := by decide +kernel
theorem dX12_run_269 : decode cX12_run 269 = .ok (.aload_n 0, 1) := by decide +kernel
theorem dX12_run_270 : decode cX12_run 270 = .ok (.getfield 62, 3) := by decide +kernel
theorem dX12_run_273 : decode cX12_run 273 = .ok (.iload 4, 2) := by decide +kernel
theorem dX12_run_275 : decode cX12_run 275 = .ok (.iaload, 1) := by decide +kernel
theorem dX12_run_276 : decode cX12_run 276 = .ok (.ineg, 1) := by decide +kernel
theorem dX12_run_277 : decode cX12_run 277 = .ok (.iastore, 1) := by decide +kernel
theorem dX12_run_278 : decode cX12_run 278 = .ok (.iinc 4 1, 3) := by decide +kernel
theorem dX12_run_281 : decode cX12_run 281 = .ok (.goto (-50), 3) := by decide +kernel
theorem dX12_run_284 : decode cX12_run 284 = .ok (.return_, 1) := by decide +kernel
def m_run_284 (N : Nat) (w : aw_W) : Option (aw_W) :=
  some w
theorem w_m_run_284 {l : Launch} {K : aw_K} (N d : Nat) (hd : 128 ≤ d) : ∀ (w v : aw_W), m_run_284 N w = some v → aw_AW l K MX12_run (d + 1) 284 [] [] w (none, v) := by
  intro w v h
  unfold m_run_284 at h
  cases h
  exact aw_vret (pc := 284) rfl dX12_run_284
def m_run_262 (N : Nat) (k231 : Int → aw_W → Option (aw_W)) (x4 s0 s1 : Int) (w : aw_W) : Option (aw_W) :=
  if 0 ≤ s1 ∧ s1 < 6 then
    if s0 = 0 ∨ s0 = 1 then
      if 0 ≤ x4 ∧ x4 < 6 then
        if 0 ≤ x4 ∧ x4 < 6 then
          k231 (aw_w (x4 + 1)) (aw_up (aw_up w 60 s1.toNat s0) 59 x4.toNat (aw_w (-(w 62 x4.toNat))))
        else none
      else none
    else none
  else none
theorem w_m_run_262 {l : Launch} {K : aw_K} (N d : Nat) (hd : 128 ≤ d) (k231 : Int → aw_W → Option (aw_W)) (hk231 : ∀ (x4 : Int) (w v : aw_W), k231 x4 w = some v → aw_AW l K MX12_run (d + 1) 231 [(0, .inr (.inr 49)), (4, .inl x4)] [] w (none, v)) : ∀ (x4 s0 s1 : Int) (w v : aw_W), m_run_262 N k231 x4 s0 s1 w = some v → aw_AW l K MX12_run (d + 1) 262 [(0, .inr (.inr 49)), (4, .inl x4)] [.inl s0, .inl s1, .inr (.inr 60)] w (none, v) := by
  intro x4 s0 s1 w v h
  unfold m_run_262 at h
  obtain ⟨hb, h⟩ := aw_cks h
  obtain ⟨hz, h⟩ := aw_cks h
  refine aw_zast (pc := 262) dX12_run_262 rfl hb.1 hb.2 hz ?_
  refine aw_aload_n (pc := 263) (q := 0) dX12_run_263 rfl ?_
  refine aw_getf (pc := 264) (v := .inr (.inr 59)) dX12_run_264 fl_RX12_52 (by decide) rfl rfl rfl ?_
  refine aw_iload (pc := 267) (q := 1) dX12_run_267 rfl ?_
  refine aw_aload_n (pc := 269) (q := 0) dX12_run_269 rfl ?_
  refine aw_getf (pc := 270) (v := .inr (.inr 62)) dX12_run_270 fl_RX12_62 (by decide) rfl rfl rfl ?_
  refine aw_iload (pc := 273) (q := 1) dX12_run_273 rfl ?_
  obtain ⟨hb, h⟩ := aw_cks h
  refine aw_ialdv (pc := 275) (v := w 62 x4.toNat) dX12_run_275 rfl hb.1 hb.2 rfl ?_
  refine aw_ineg (pc := 276) dX12_run_276 ?_
  obtain ⟨hb, h⟩ := aw_cks h
  refine aw_iast (pc := 277) dX12_run_277 rfl hb.1 hb.2 ?_
  refine aw_iinc (pc := 278) (q := 1) (ls' := [(4, .inl (aw_w (x4 + 1))), (0, .inr (.inr 49))]) dX12_run_278 rfl (by decide) rfl ?_
  refine aw_goto (pc := 281) (tgt := 231) dX12_run_281 (by decide) ?_
  exact aw_sel [1, 0] rfl (hk231 _ _ _ h)
def m_run_231 (N : Nat) : Nat → Int → aw_W → Option (aw_W)
  | 0, _, _ => none
  | n + 1, x4, w =>
    if (w 49 22) ≤ x4 then
      m_run_284 N w
    else
      if 0 ≤ x4 ∧ x4 < 6 then
        if (w 62 x4.toNat) = (-1) then
          m_run_262 N (m_run_231 N n) x4 1 x4 w
        else
          m_run_262 N (m_run_231 N n) x4 0 x4 w
      else none
theorem w_m_run_231 {l : Launch} {K : aw_K} (N d : Nat) (hd : 128 ≤ d) : ∀ (n : Nat) (x4 : Int) (w v : aw_W), m_run_231 N n x4 w = some v → aw_AW l K MX12_run (d + 1) 231 [(0, .inr (.inr 49)), (4, .inl x4)] [] w (none, v) := by
  intro n
  induction n with
  | zero => intro x4 w v h; rw [m_run_231] at h; cases h
  | succ n ih =>
    intro x4 w v h
    rw [m_run_231] at h
    refine aw_iload (pc := 231) (q := 1) dX12_run_231 rfl ?_
    refine aw_aload_n (pc := 233) (q := 0) dX12_run_233 rfl ?_
    refine aw_getf (pc := 234) (v := .inl (w 49 22)) dX12_run_234 fl_RX12_270 (by decide) rfl rfl rfl ?_
    refine aw_icmp_ge (pc := 237) (tgt := 284) dX12_run_237 (by decide) (fun hc => ?_) (fun hc => ?_)
    · rw [if_pos hc] at h
      exact aw_sel [] rfl (w_m_run_284 N d hd  _ _ h)
    · rw [if_neg hc] at h
      refine aw_aload_n (pc := 240) (q := 0) dX12_run_240 rfl ?_
      refine aw_getf (pc := 241) (v := .inr (.inr 60)) dX12_run_241 fl_RX12_55 (by decide) rfl rfl rfl ?_
      refine aw_iload (pc := 244) (q := 1) dX12_run_244 rfl ?_
      refine aw_aload_n (pc := 246) (q := 0) dX12_run_246 rfl ?_
      refine aw_getf (pc := 247) (v := .inr (.inr 62)) dX12_run_247 fl_RX12_62 (by decide) rfl rfl rfl ?_
      refine aw_iload (pc := 250) (q := 1) dX12_run_250 rfl ?_
      obtain ⟨hb, h⟩ := aw_cks h
      refine aw_ialdv (pc := 252) (v := w 62 x4.toNat) dX12_run_252 rfl hb.1 hb.2 rfl ?_
      refine aw_iconst (pc := 253) dX12_run_253 ⟨by decide, by decide⟩ ?_
      refine aw_icmp_ne (pc := 254) (tgt := 261) dX12_run_254 (by decide) (fun hc => ?_) (fun hc => ?_)
      · rw [if_neg hc] at h
        refine aw_iconst (pc := 261) dX12_run_261 ⟨by decide, by decide⟩ ?_
        exact aw_sel [0, 1] rfl (w_m_run_262 N d hd  _ ih _ _ _ _ _ h)
      · rw [if_pos hc] at h
        refine aw_iconst (pc := 257) dX12_run_257 ⟨by decide, by decide⟩ ?_
        refine aw_goto (pc := 258) (tgt := 262) dX12_run_258 (by decide) ?_
        exact aw_sel [0, 1] rfl (w_m_run_262 N d hd  _ ih _ _ _ _ _ h)
def m_run_228 (N : Nat) (w : aw_W) : Option (aw_W) :=
  m_run_231 N N 0 w
theorem w_m_run_228 {l : Launch} {K : aw_K} (N d : Nat) (hd : 128 ≤ d) : ∀ (w v : aw_W), m_run_228 N w = some v → aw_AW l K MX12_run (d + 1) 228 [(0, .inr (.inr 49))] [] w (none, v) := by
  intro w v h
  unfold m_run_228 at h
  refine aw_iconst (pc := 228) dX12_run_228 ⟨by decide, by decide⟩ ?_
  refine aw_istore (pc := 229) (ls' := [(4, .inl 0), (0, .inr (.inr 49))]) dX12_run_229 (by decide) rfl ?_
  exact aw_sel [1, 0] rfl (w_m_run_231 N d hd  N _ _ _ h)
def m_run_222 (N : Nat) (k42 : Int → Int → Int → Int → aw_W → Option (aw_W)) (x1 x2 x3 x4 : Int) (w : aw_W) : Option (aw_W) :=
  k42 x1 x2 x3 (aw_w (x4 + 1)) w
theorem w_m_run_222 {l : Launch} {K : aw_K} (N d : Nat) (hd : 128 ≤ d) (k42 : Int → Int → Int → Int → aw_W → Option (aw_W)) (hk42 : ∀ (x1 x2 x3 x4 : Int) (w v : aw_W), k42 x1 x2 x3 x4 w = some v → aw_AW l K MX12_run (d + 1) 42 [(0, .inr (.inr 49)), (1, .inl x1), (2, .inl x2), (3, .inl x3), (4, .inl x4)] [] w (none, v)) : ∀ (x1 x2 x3 x4 : Int) (w v : aw_W), m_run_222 N k42 x1 x2 x3 x4 w = some v → aw_AW l K MX12_run (d + 1) 222 [(0, .inr (.inr 49)), (1, .inl x1), (2, .inl x2), (3, .inl x3), (4, .inl x4)] [] w (none, v) := by
  intro x1 x2 x3 x4 w v h
  unfold m_run_222 at h
  refine aw_iinc (pc := 222) (q := 4) (ls' := [(4, .inl (aw_w (x4 + 1))), (0, .inr (.inr 49)), (1, .inl x1), (2, .inl x2), (3, .inl x3)]) dX12_run_222 rfl (by decide) rfl ?_
  refine aw_goto (pc := 225) (tgt := 42) dX12_run_225 (by decide) ?_
  exact aw_sel [1, 2, 3, 4, 0] rfl (hk42 _ _ _ _ _ _ h)
def m_run_216 (N : Nat) (k42 : Int → Int → Int → Int → aw_W → Option (aw_W)) (k132 : Int → Int → Int → Int → Int → aw_W → Option (aw_W)) (x1 x2 x3 x4 x6 : Int) (w : aw_W) : Option (aw_W) :=
  k132 x1 x2 x3 x4 (aw_w (x6 + 1)) w
theorem w_m_run_216 {l : Launch} {K : aw_K} (N d : Nat) (hd : 128 ≤ d) (k42 : Int → Int → Int → Int → aw_W → Option (aw_W)) (hk42 : ∀ (x1 x2 x3 x4 : Int) (w v : aw_W), k42 x1 x2 x3 x4 w = some v → aw_AW l K MX12_run (d + 1) 42 [(0, .inr (.inr 49)), (1, .inl x1), (2, .inl x2), (3, .inl x3), (4, .inl x4)] [] w (none, v)) (k132 : Int → Int → Int → Int → Int → aw_W → Option (aw_W)) (hk132 : ∀ (x1 x2 x3 x4 x6 : Int) (w v : aw_W), k132 x1 x2 x3 x4 x6 w = some v → aw_AW l K MX12_run (d + 1) 132 [(0, .inr (.inr 49)), (1, .inl x1), (2, .inl x2), (3, .inl x3), (4, .inl x4), (6, .inl x6)] [] w (none, v)) : ∀ (x1 x2 x3 x4 x6 : Int) (w v : aw_W), m_run_216 N k42 k132 x1 x2 x3 x4 x6 w = some v → aw_AW l K MX12_run (d + 1) 216 [(0, .inr (.inr 49)), (1, .inl x1), (2, .inl x2), (3, .inl x3), (4, .inl x4), (6, .inl x6)] [] w (none, v) := by
  intro x1 x2 x3 x4 x6 w v h
  unfold m_run_216 at h
  refine aw_iinc (pc := 216) (q := 5) (ls' := [(6, .inl (aw_w (x6 + 1))), (0, .inr (.inr 49)), (1, .inl x1), (2, .inl x2), (3, .inl x3), (4, .inl x4)]) dX12_run_216 rfl (by decide) rfl ?_
  refine aw_goto (pc := 219) (tgt := 132) dX12_run_219 (by decide) ?_
  exact aw_sel [1, 2, 3, 4, 5, 0] rfl (hk132 _ _ _ _ _ _ _ h)
def m_run_132 (N : Nat) (k42 : Int → Int → Int → Int → aw_W → Option (aw_W)) : Nat → Int → Int → Int → Int → Int → aw_W → Option (aw_W)
  | 0, _, _, _, _, _, _ => none
  | n + 1, x1, x2, x3, x4, x6, w =>
    if (w 49 22) ≤ x6 then
      m_run_222 N k42 x1 x2 x3 x4 w
    else
      aw_b2 (m_goneBy N x6 x4 w) fun r1 w1 =>
        if 0 ≤ x6 ∧ x6 < 6 then
          if 0 ≤ (aw_w ((aw_w (6 * (aw_w (x4 + 1)))) + x6)) ∧ (aw_w ((aw_w (6 * (aw_w (x4 + 1)))) + x6)) < 600 then
            if 0 ≤ x6 ∧ x6 < 6 then
              if (w1 62 x6.toNat) = (-1) then
                aw_b2 (m_goneBy N x6 (aw_w (x4 + 1)) (aw_up w1 61 ((aw_w ((aw_w (6 * (aw_w (x4 + 1)))) + x6)).toNat) (aw_mn x1 (aw_w (r1 + (w1 63 x6.toNat)))))) fun r2 w2 =>
                  if x1 ≤ r2 then
                    if 0 ≤ x6 ∧ x6 < 6 then
                      m_run_216 N k42 (m_run_132 N k42 n) x1 x2 (aw_w (x3 + 1)) x4 x6 (aw_up w2 62 x6.toNat x4)
                    else none
                  else
                    m_run_216 N k42 (m_run_132 N k42 n) x1 x2 x3 x4 x6 w2
              else
                m_run_216 N k42 (m_run_132 N k42 n) x1 x2 x3 x4 x6 (aw_up w1 61 ((aw_w ((aw_w (6 * (aw_w (x4 + 1)))) + x6)).toNat) (aw_mn x1 (aw_w (r1 + (w1 63 x6.toNat)))))
            else none
          else none
        else none
theorem w_m_run_132 {l : Launch} {K : aw_K} (N d : Nat) (hd : 128 ≤ d) (k42 : Int → Int → Int → Int → aw_W → Option (aw_W)) (hk42 : ∀ (x1 x2 x3 x4 : Int) (w v : aw_W), k42 x1 x2 x3 x4 w = some v → aw_AW l K MX12_run (d + 1) 42 [(0, .inr (.inr 49)), (1, .inl x1), (2, .inl x2), (3, .inl x3), (4, .inl x4)] [] w (none, v)) : ∀ (n : Nat) (x1 x2 x3 x4 x6 : Int) (w v : aw_W), m_run_132 N k42 n x1 x2 x3 x4 x6 w = some v → aw_AW l K MX12_run (d + 1) 132 [(0, .inr (.inr 49)), (1, .inl x1), (2, .inl x2), (3, .inl x3), (4, .inl x4), (6, .inl x6)] [] w (none, v) := by
  intro n
  induction n with
  | zero => intro x1 x2 x3 x4 x6 w v h; rw [m_run_132] at h; cases h
  | succ n ih =>
    intro x1 x2 x3 x4 x6 w v h
    rw [m_run_132] at h
    refine aw_iload (pc := 132) (q := 5) dX12_run_132 rfl ?_
    refine aw_aload_n (pc := 134) (q := 0) dX12_run_134 rfl ?_
    refine aw_getf (pc := 135) (v := .inl (w 49 22)) dX12_run_135 fl_RX12_270 (by decide) rfl rfl rfl ?_
    refine aw_icmp_ge (pc := 138) (tgt := 222) dX12_run_138 (by decide) (fun hc => ?_) (fun hc => ?_)
    · rw [if_pos hc] at h
      exact aw_sel [0, 1, 2, 3, 4] rfl (w_m_run_222 N d hd  _ hk42 _ _ _ _ _ _ h)
    · rw [if_neg hc] at h
      refine aw_aload_n (pc := 141) (q := 0) dX12_run_141 rfl ?_
      refine aw_getf (pc := 142) (v := .inr (.inr 61)) dX12_run_142 fl_RX12_59 (by decide) rfl rfl rfl ?_
      refine aw_bipush (pc := 145) dX12_run_145 (by decide) ⟨by decide, by decide⟩ ?_
      refine aw_iload (pc := 147) (q := 4) dX12_run_147 rfl ?_
      refine aw_iconst (pc := 149) dX12_run_149 ⟨by decide, by decide⟩ ?_
      refine aw_iadd (pc := 150) dX12_run_150 ?_
      refine aw_imul (pc := 151) dX12_run_151 ?_
      refine aw_iload (pc := 152) (q := 5) dX12_run_152 rfl ?_
      refine aw_iadd (pc := 154) dX12_run_154 ?_
      refine aw_iload_n (pc := 155) (q := 1) dX12_run_155 rfl ?_
      refine aw_aload_n (pc := 156) (q := 0) dX12_run_156 rfl ?_
      refine aw_iload (pc := 157) (q := 5) dX12_run_157 rfl ?_
      refine aw_iload (pc := 159) (q := 4) dX12_run_159 rfl ?_
      obtain ⟨r1, w1, h1, h⟩ := aw_b2s h
      refine aw_callV (pc := 161) (as := [.inl x6, .inl x4]) (st := [.inl x1, .inl (aw_w ((aw_w (6 * (aw_w (x4 + 1)))) + x6)), .inr (.inr 61)]) (st' := [.inl r1, .inl x1, .inl (aw_w ((aw_w (6 * (aw_w (x4 + 1)))) + x6)), .inr (.inr 61)]) dX12_run_161 cv_RX12_296 (by decide) rfl rfl rfl rfl (Nat.le_of_ble_eq_true rfl) (w_m_goneBy N d (by omega) _ _ _ _ _ h1) rfl ?_
      refine aw_aload_n (pc := 164) (q := 0) dX12_run_164 rfl ?_
      refine aw_getf (pc := 165) (v := .inr (.inr 63)) dX12_run_165 fl_RX12_65 (by decide) rfl rfl rfl ?_
      refine aw_iload (pc := 168) (q := 5) dX12_run_168 rfl ?_
      obtain ⟨hb, h⟩ := aw_cks h
      refine aw_ialdv (pc := 170) (v := w1 63 x6.toNat) dX12_run_170 rfl hb.1 hb.2 rfl ?_
      refine aw_iadd (pc := 171) dX12_run_171 ?_
      refine aw_mmin (pc := 172) dX12_run_172 cm_RX12_279 (Nat.le_of_ble_eq_true rfl) ?_
      obtain ⟨hb, h⟩ := aw_cks h
      refine aw_iast (pc := 175) dX12_run_175 rfl hb.1 hb.2 ?_
      refine aw_aload_n (pc := 176) (q := 0) dX12_run_176 rfl ?_
      refine aw_getf (pc := 177) (v := .inr (.inr 62)) dX12_run_177 fl_RX12_62 (by decide) rfl rfl rfl ?_
      refine aw_iload (pc := 180) (q := 5) dX12_run_180 rfl ?_
      obtain ⟨hb, h⟩ := aw_cks h
      refine aw_ialdv (pc := 182) (v := w1 62 x6.toNat) dX12_run_182 rfl hb.1 hb.2 rfl ?_
      refine aw_iconst (pc := 183) dX12_run_183 ⟨by decide, by decide⟩ ?_
      refine aw_icmp_ne (pc := 184) (tgt := 216) dX12_run_184 (by decide) (fun hc => ?_) (fun hc => ?_)
      · rw [if_neg hc] at h
        exact aw_sel [0, 1, 2, 3, 4, 5] rfl (w_m_run_216 N d hd  _ hk42 _ ih _ _ _ _ _ _ _ h)
      · rw [if_pos hc] at h
        refine aw_aload_n (pc := 187) (q := 0) dX12_run_187 rfl ?_
        refine aw_iload (pc := 188) (q := 5) dX12_run_188 rfl ?_
        refine aw_iload (pc := 190) (q := 4) dX12_run_190 rfl ?_
        refine aw_iconst (pc := 192) dX12_run_192 ⟨by decide, by decide⟩ ?_
        refine aw_iadd (pc := 193) dX12_run_193 ?_
        obtain ⟨r2, w2, h2, h⟩ := aw_b2s h
        refine aw_callV (pc := 194) (as := [.inl x6, .inl (aw_w (x4 + 1))]) (st := []) (st' := [.inl r2]) dX12_run_194 cv_RX12_296 (by decide) rfl rfl rfl rfl (Nat.le_of_ble_eq_true rfl) (w_m_goneBy N d (by omega) _ _ _ _ _ h2) rfl ?_
        refine aw_iload_n (pc := 197) (q := 1) dX12_run_197 rfl ?_
        refine aw_icmp_ge (pc := 198) (tgt := 204) dX12_run_198 (by decide) (fun hc => ?_) (fun hc => ?_)
        · rw [if_pos hc] at h
          refine aw_aload_n (pc := 204) (q := 0) dX12_run_204 rfl ?_
          refine aw_getf (pc := 205) (v := .inr (.inr 62)) dX12_run_205 fl_RX12_62 (by decide) rfl rfl rfl ?_
          refine aw_iload (pc := 208) (q := 5) dX12_run_208 rfl ?_
          refine aw_iload (pc := 210) (q := 4) dX12_run_210 rfl ?_
          obtain ⟨hb, h⟩ := aw_cks h
          refine aw_iast (pc := 212) dX12_run_212 rfl hb.1 hb.2 ?_
          refine aw_iinc (pc := 213) (q := 3) (ls' := [(3, .inl (aw_w (x3 + 1))), (0, .inr (.inr 49)), (1, .inl x1), (2, .inl x2), (4, .inl x4), (6, .inl x6)]) dX12_run_213 rfl (by decide) rfl ?_
          exact aw_sel [1, 2, 3, 0, 4, 5] rfl (w_m_run_216 N d hd  _ hk42 _ ih _ _ _ _ _ _ _ h)
        · rw [if_neg hc] at h
          refine aw_goto (pc := 201) (tgt := 216) dX12_run_201 (by decide) ?_
          exact aw_sel [0, 1, 2, 3, 4, 5] rfl (w_m_run_216 N d hd  _ hk42 _ ih _ _ _ _ _ _ _ h)
def m_run_129 (N : Nat) (k42 : Int → Int → Int → Int → aw_W → Option (aw_W)) (x1 x2 x3 x4 : Int) (w : aw_W) : Option (aw_W) :=
  m_run_132 N k42 N x1 x2 x3 x4 0 w
theorem w_m_run_129 {l : Launch} {K : aw_K} (N d : Nat) (hd : 128 ≤ d) (k42 : Int → Int → Int → Int → aw_W → Option (aw_W)) (hk42 : ∀ (x1 x2 x3 x4 : Int) (w v : aw_W), k42 x1 x2 x3 x4 w = some v → aw_AW l K MX12_run (d + 1) 42 [(0, .inr (.inr 49)), (1, .inl x1), (2, .inl x2), (3, .inl x3), (4, .inl x4)] [] w (none, v)) : ∀ (x1 x2 x3 x4 : Int) (w v : aw_W), m_run_129 N k42 x1 x2 x3 x4 w = some v → aw_AW l K MX12_run (d + 1) 129 [(0, .inr (.inr 49)), (1, .inl x1), (2, .inl x2), (3, .inl x3), (4, .inl x4)] [] w (none, v) := by
  intro x1 x2 x3 x4 w v h
  unfold m_run_129 at h
  refine aw_iconst (pc := 129) dX12_run_129 ⟨by decide, by decide⟩ ?_
  refine aw_istore (pc := 130) (ls' := [(6, .inl 0), (0, .inr (.inr 49)), (1, .inl x1), (2, .inl x2), (3, .inl x3), (4, .inl x4)]) dX12_run_130 (by decide) rfl ?_
  exact aw_sel [1, 2, 3, 4, 5, 0] rfl (w_m_run_132 N d hd  _ hk42 N _ _ _ _ _ _ _ h)
def m_run_122 (N : Nat) (k42 : Int → Int → Int → Int → aw_W → Option (aw_W)) (k77 : Int → Int → Int → Int → Int → Int → aw_W → Option (aw_W)) (x1 x2 x3 x4 x5 x6 s0 s1 : Int) (w : aw_W) : Option (aw_W) :=
  if 0 ≤ s1 ∧ s1 < 6 then
    k77 x1 x2 x3 x4 x5 (aw_w (x6 + 1)) (aw_up w 63 s1.toNat s0)
  else none
theorem w_m_run_122 {l : Launch} {K : aw_K} (N d : Nat) (hd : 128 ≤ d) (k42 : Int → Int → Int → Int → aw_W → Option (aw_W)) (hk42 : ∀ (x1 x2 x3 x4 : Int) (w v : aw_W), k42 x1 x2 x3 x4 w = some v → aw_AW l K MX12_run (d + 1) 42 [(0, .inr (.inr 49)), (1, .inl x1), (2, .inl x2), (3, .inl x3), (4, .inl x4)] [] w (none, v)) (k77 : Int → Int → Int → Int → Int → Int → aw_W → Option (aw_W)) (hk77 : ∀ (x1 x2 x3 x4 x5 x6 : Int) (w v : aw_W), k77 x1 x2 x3 x4 x5 x6 w = some v → aw_AW l K MX12_run (d + 1) 77 [(0, .inr (.inr 49)), (1, .inl x1), (2, .inl x2), (3, .inl x3), (4, .inl x4), (5, .inl x5), (6, .inl x6)] [] w (none, v)) : ∀ (x1 x2 x3 x4 x5 x6 s0 s1 : Int) (w v : aw_W), m_run_122 N k42 k77 x1 x2 x3 x4 x5 x6 s0 s1 w = some v → aw_AW l K MX12_run (d + 1) 122 [(0, .inr (.inr 49)), (1, .inl x1), (2, .inl x2), (3, .inl x3), (4, .inl x4), (5, .inl x5), (6, .inl x6)] [.inl s0, .inl s1, .inr (.inr 63)] w (none, v) := by
  intro x1 x2 x3 x4 x5 x6 s0 s1 w v h
  unfold m_run_122 at h
  obtain ⟨hb, h⟩ := aw_cks h
  refine aw_iast (pc := 122) dX12_run_122 rfl hb.1 hb.2 ?_
  refine aw_iinc (pc := 123) (q := 6) (ls' := [(6, .inl (aw_w (x6 + 1))), (0, .inr (.inr 49)), (1, .inl x1), (2, .inl x2), (3, .inl x3), (4, .inl x4), (5, .inl x5)]) dX12_run_123 rfl (by decide) rfl ?_
  refine aw_goto (pc := 126) (tgt := 77) dX12_run_126 (by decide) ?_
  exact aw_sel [1, 2, 3, 4, 5, 6, 0] rfl (hk77 _ _ _ _ _ _ _ _ h)
def m_run_121 (N : Nat) (k42 : Int → Int → Int → Int → aw_W → Option (aw_W)) (k77 : Int → Int → Int → Int → Int → Int → aw_W → Option (aw_W)) (x1 x2 x3 x4 x5 x6 s0 : Int) (w : aw_W) : Option (aw_W) :=
  m_run_122 N k42 k77 x1 x2 x3 x4 x5 x6 0 s0 w
theorem w_m_run_121 {l : Launch} {K : aw_K} (N d : Nat) (hd : 128 ≤ d) (k42 : Int → Int → Int → Int → aw_W → Option (aw_W)) (hk42 : ∀ (x1 x2 x3 x4 : Int) (w v : aw_W), k42 x1 x2 x3 x4 w = some v → aw_AW l K MX12_run (d + 1) 42 [(0, .inr (.inr 49)), (1, .inl x1), (2, .inl x2), (3, .inl x3), (4, .inl x4)] [] w (none, v)) (k77 : Int → Int → Int → Int → Int → Int → aw_W → Option (aw_W)) (hk77 : ∀ (x1 x2 x3 x4 x5 x6 : Int) (w v : aw_W), k77 x1 x2 x3 x4 x5 x6 w = some v → aw_AW l K MX12_run (d + 1) 77 [(0, .inr (.inr 49)), (1, .inl x1), (2, .inl x2), (3, .inl x3), (4, .inl x4), (5, .inl x5), (6, .inl x6)] [] w (none, v)) : ∀ (x1 x2 x3 x4 x5 x6 s0 : Int) (w v : aw_W), m_run_121 N k42 k77 x1 x2 x3 x4 x5 x6 s0 w = some v → aw_AW l K MX12_run (d + 1) 121 [(0, .inr (.inr 49)), (1, .inl x1), (2, .inl x2), (3, .inl x3), (4, .inl x4), (5, .inl x5), (6, .inl x6)] [.inl s0, .inr (.inr 63)] w (none, v) := by
  intro x1 x2 x3 x4 x5 x6 s0 w v h
  unfold m_run_121 at h
  refine aw_iconst (pc := 121) dX12_run_121 ⟨by decide, by decide⟩ ?_
  exact aw_sel [0, 1, 2, 3, 4, 5, 6] rfl (w_m_run_122 N d hd  _ hk42 _ hk77 _ _ _ _ _ _ _ _ _ _ h)
def m_run_77 (N : Nat) (k42 : Int → Int → Int → Int → aw_W → Option (aw_W)) : Nat → Int → Int → Int → Int → Int → Int → aw_W → Option (aw_W)
  | 0, _, _, _, _, _, _, _ => none
  | n + 1, x1, x2, x3, x4, x5, x6, w =>
    if (w 49 22) ≤ x6 then
      m_run_129 N k42 x1 x2 x3 x4 w
    else
      if x5 = 0 then
        m_run_121 N k42 (m_run_77 N k42 n) x1 x2 x3 x4 x5 x6 x6 w
      else
        if 0 ≤ x6 ∧ x6 < 6 then
          if (w 62 x6.toNat) = (-1) then
            aw_b2 (m_stepOf N x6 x1 x2 x4 w) fun r1 w1 =>
              m_run_122 N k42 (m_run_77 N k42 n) x1 x2 x3 x4 x5 x6 r1 x6 w1
          else
            m_run_121 N k42 (m_run_77 N k42 n) x1 x2 x3 x4 x5 x6 x6 w
        else none
theorem w_m_run_77 {l : Launch} {K : aw_K} (N d : Nat) (hd : 128 ≤ d) (k42 : Int → Int → Int → Int → aw_W → Option (aw_W)) (hk42 : ∀ (x1 x2 x3 x4 : Int) (w v : aw_W), k42 x1 x2 x3 x4 w = some v → aw_AW l K MX12_run (d + 1) 42 [(0, .inr (.inr 49)), (1, .inl x1), (2, .inl x2), (3, .inl x3), (4, .inl x4)] [] w (none, v)) : ∀ (n : Nat) (x1 x2 x3 x4 x5 x6 : Int) (w v : aw_W), m_run_77 N k42 n x1 x2 x3 x4 x5 x6 w = some v → aw_AW l K MX12_run (d + 1) 77 [(0, .inr (.inr 49)), (1, .inl x1), (2, .inl x2), (3, .inl x3), (4, .inl x4), (5, .inl x5), (6, .inl x6)] [] w (none, v) := by
  intro n
  induction n with
  | zero => intro x1 x2 x3 x4 x5 x6 w v h; rw [m_run_77] at h; cases h
  | succ n ih =>
    intro x1 x2 x3 x4 x5 x6 w v h
    rw [m_run_77] at h
    refine aw_iload (pc := 77) (q := 6) dX12_run_77 rfl ?_
    refine aw_aload_n (pc := 79) (q := 0) dX12_run_79 rfl ?_
    refine aw_getf (pc := 80) (v := .inl (w 49 22)) dX12_run_80 fl_RX12_270 (by decide) rfl rfl rfl ?_
    refine aw_icmp_ge (pc := 83) (tgt := 129) dX12_run_83 (by decide) (fun hc => ?_) (fun hc => ?_)
    · rw [if_pos hc] at h
      exact aw_sel [0, 1, 2, 3, 4] rfl (w_m_run_129 N d hd  _ hk42 _ _ _ _ _ _ h)
    · rw [if_neg hc] at h
      refine aw_aload_n (pc := 86) (q := 0) dX12_run_86 rfl ?_
      refine aw_getf (pc := 87) (v := .inr (.inr 63)) dX12_run_87 fl_RX12_65 (by decide) rfl rfl rfl ?_
      refine aw_iload (pc := 90) (q := 6) dX12_run_90 rfl ?_
      refine aw_iload (pc := 92) (q := 5) dX12_run_92 rfl ?_
      refine aw_if_eq (pc := 94) (tgt := 121) dX12_run_94 (by decide) (fun hc => ?_) (fun hc => ?_)
      · rw [if_pos hc] at h
        exact aw_sel [0, 1, 2, 3, 4, 5, 6] rfl (w_m_run_121 N d hd  _ hk42 _ ih _ _ _ _ _ _ _ _ _ h)
      · rw [if_neg hc] at h
        refine aw_aload_n (pc := 97) (q := 0) dX12_run_97 rfl ?_
        refine aw_getf (pc := 98) (v := .inr (.inr 62)) dX12_run_98 fl_RX12_62 (by decide) rfl rfl rfl ?_
        refine aw_iload (pc := 101) (q := 6) dX12_run_101 rfl ?_
        obtain ⟨hb, h⟩ := aw_cks h
        refine aw_ialdv (pc := 103) (v := w 62 x6.toNat) dX12_run_103 rfl hb.1 hb.2 rfl ?_
        refine aw_iconst (pc := 104) dX12_run_104 ⟨by decide, by decide⟩ ?_
        refine aw_icmp_ne (pc := 105) (tgt := 121) dX12_run_105 (by decide) (fun hc => ?_) (fun hc => ?_)
        · rw [if_neg hc] at h
          exact aw_sel [0, 1, 2, 3, 4, 5, 6] rfl (w_m_run_121 N d hd  _ hk42 _ ih _ _ _ _ _ _ _ _ _ h)
        · rw [if_pos hc] at h
          refine aw_aload_n (pc := 108) (q := 0) dX12_run_108 rfl ?_
          refine aw_iload (pc := 109) (q := 6) dX12_run_109 rfl ?_
          refine aw_iload_n (pc := 111) (q := 1) dX12_run_111 rfl ?_
          refine aw_iload_n (pc := 112) (q := 2) dX12_run_112 rfl ?_
          refine aw_iload (pc := 113) (q := 4) dX12_run_113 rfl ?_
          obtain ⟨r1, w1, h1, h⟩ := aw_b2s h
          refine aw_callV (pc := 115) (as := [.inl x6, .inl x1, .inl x2, .inl x4]) (st := [.inl x6, .inr (.inr 63)]) (st' := [.inl r1, .inl x6, .inr (.inr 63)]) dX12_run_115 cv_RX12_304 (by decide) rfl rfl rfl rfl (Nat.le_of_ble_eq_true rfl) (w_m_stepOf N d (by omega) _ _ _ _ _ _ _ h1) rfl ?_
          refine aw_goto (pc := 118) (tgt := 122) dX12_run_118 (by decide) ?_
          exact aw_sel [0, 1, 2, 3, 4, 5, 6] rfl (w_m_run_122 N d hd  _ hk42 _ ih _ _ _ _ _ _ _ _ _ _ h)
def m_run_74 (N : Nat) (k42 : Int → Int → Int → Int → aw_W → Option (aw_W)) (x1 x2 x3 x4 x5 : Int) (w : aw_W) : Option (aw_W) :=
  m_run_77 N k42 N x1 x2 x3 x4 x5 0 w
theorem w_m_run_74 {l : Launch} {K : aw_K} (N d : Nat) (hd : 128 ≤ d) (k42 : Int → Int → Int → Int → aw_W → Option (aw_W)) (hk42 : ∀ (x1 x2 x3 x4 : Int) (w v : aw_W), k42 x1 x2 x3 x4 w = some v → aw_AW l K MX12_run (d + 1) 42 [(0, .inr (.inr 49)), (1, .inl x1), (2, .inl x2), (3, .inl x3), (4, .inl x4)] [] w (none, v)) : ∀ (x1 x2 x3 x4 x5 : Int) (w v : aw_W), m_run_74 N k42 x1 x2 x3 x4 x5 w = some v → aw_AW l K MX12_run (d + 1) 74 [(0, .inr (.inr 49)), (1, .inl x1), (2, .inl x2), (3, .inl x3), (4, .inl x4), (5, .inl x5)] [] w (none, v) := by
  intro x1 x2 x3 x4 x5 w v h
  unfold m_run_74 at h
  refine aw_iconst (pc := 74) dX12_run_74 ⟨by decide, by decide⟩ ?_
  refine aw_istore (pc := 75) (ls' := [(6, .inl 0), (0, .inr (.inr 49)), (1, .inl x1), (2, .inl x2), (3, .inl x3), (4, .inl x4), (5, .inl x5)]) dX12_run_75 (by decide) rfl ?_
  exact aw_sel [1, 2, 3, 4, 5, 6, 0] rfl (w_m_run_77 N d hd  _ hk42 N _ _ _ _ _ _ _ _ h)
def m_run_61 (N : Nat) (k42 : Int → Int → Int → Int → aw_W → Option (aw_W)) (x1 x2 x3 x4 s0 : Int) (w : aw_W) : Option (aw_W) :=
  if s0 = 0 then
    m_run_74 N k42 x1 x2 x3 x4 s0 w
  else
    m_run_74 N k42 x1 x2 x3 x4 s0 (aw_up w 49 31 x4)
theorem w_m_run_61 {l : Launch} {K : aw_K} (N d : Nat) (hd : 128 ≤ d) (k42 : Int → Int → Int → Int → aw_W → Option (aw_W)) (hk42 : ∀ (x1 x2 x3 x4 : Int) (w v : aw_W), k42 x1 x2 x3 x4 w = some v → aw_AW l K MX12_run (d + 1) 42 [(0, .inr (.inr 49)), (1, .inl x1), (2, .inl x2), (3, .inl x3), (4, .inl x4)] [] w (none, v)) : ∀ (x1 x2 x3 x4 s0 : Int) (w v : aw_W), m_run_61 N k42 x1 x2 x3 x4 s0 w = some v → aw_AW l K MX12_run (d + 1) 61 [(0, .inr (.inr 49)), (1, .inl x1), (2, .inl x2), (3, .inl x3), (4, .inl x4)] [.inl s0] w (none, v) := by
  intro x1 x2 x3 x4 s0 w v h
  unfold m_run_61 at h
  refine aw_istore (pc := 61) (ls' := [(5, .inl s0), (0, .inr (.inr 49)), (1, .inl x1), (2, .inl x2), (3, .inl x3), (4, .inl x4)]) dX12_run_61 (by decide) rfl ?_
  refine aw_iload (pc := 63) (q := 0) dX12_run_63 rfl ?_
  refine aw_if_eq (pc := 65) (tgt := 74) dX12_run_65 (by decide) (fun hc => ?_) (fun hc => ?_)
  · rw [if_pos hc] at h
    exact aw_sel [1, 2, 3, 4, 5, 0] rfl (w_m_run_74 N d hd  _ hk42 _ _ _ _ _ _ _ h)
  · rw [if_neg hc] at h
    refine aw_aload_n (pc := 68) (q := 1) dX12_run_68 rfl ?_
    refine aw_iload (pc := 69) (q := 5) dX12_run_69 rfl ?_
    refine aw_puti (pc := 71) dX12_run_71 fp_RX12_301 (by decide) rfl rfl ?_
    exact aw_sel [1, 2, 3, 4, 5, 0] rfl (w_m_run_74 N d hd  _ hk42 _ _ _ _ _ _ _ h)
def m_run_42 (N : Nat) : Nat → Int → Int → Int → Int → aw_W → Option (aw_W)
  | 0, _, _, _, _, _ => none
  | n + 1, x1, x2, x3, x4, w =>
    if x2 ≤ x4 then
      m_run_228 N w
    else
      if (w 49 22) ≤ x3 then
        m_run_61 N (m_run_42 N n) x1 x2 x3 x4 0 w
      else
        m_run_61 N (m_run_42 N n) x1 x2 x3 x4 1 w
theorem w_m_run_42 {l : Launch} {K : aw_K} (N d : Nat) (hd : 128 ≤ d) : ∀ (n : Nat) (x1 x2 x3 x4 : Int) (w v : aw_W), m_run_42 N n x1 x2 x3 x4 w = some v → aw_AW l K MX12_run (d + 1) 42 [(0, .inr (.inr 49)), (1, .inl x1), (2, .inl x2), (3, .inl x3), (4, .inl x4)] [] w (none, v) := by
  intro n
  induction n with
  | zero => intro x1 x2 x3 x4 w v h; rw [m_run_42] at h; cases h
  | succ n ih =>
    intro x1 x2 x3 x4 w v h
    rw [m_run_42] at h
    refine aw_iload (pc := 42) (q := 4) dX12_run_42 rfl ?_
    refine aw_iload_n (pc := 44) (q := 2) dX12_run_44 rfl ?_
    refine aw_icmp_ge (pc := 45) (tgt := 228) dX12_run_45 (by decide) (fun hc => ?_) (fun hc => ?_)
    · rw [if_pos hc] at h
      exact aw_sel [0] rfl (w_m_run_228 N d hd  _ _ h)
    · rw [if_neg hc] at h
      refine aw_iload_n (pc := 48) (q := 3) dX12_run_48 rfl ?_
      refine aw_aload_n (pc := 49) (q := 0) dX12_run_49 rfl ?_
      refine aw_getf (pc := 50) (v := .inl (w 49 22)) dX12_run_50 fl_RX12_270 (by decide) rfl rfl rfl ?_
      refine aw_icmp_ge (pc := 53) (tgt := 60) dX12_run_53 (by decide) (fun hc => ?_) (fun hc => ?_)
      · rw [if_pos hc] at h
        refine aw_iconst (pc := 60) dX12_run_60 ⟨by decide, by decide⟩ ?_
        exact aw_sel [0, 1, 2, 3, 4] rfl (w_m_run_61 N d hd  _ ih _ _ _ _ _ _ _ h)
      · rw [if_neg hc] at h
        refine aw_iconst (pc := 56) dX12_run_56 ⟨by decide, by decide⟩ ?_
        refine aw_goto (pc := 57) (tgt := 61) dX12_run_57 (by decide) ?_
        exact aw_sel [0, 1, 2, 3, 4] rfl (w_m_run_61 N d hd  _ ih _ _ _ _ _ _ _ h)
def m_run_39 (N : Nat) (x1 x2 x3 : Int) (w : aw_W) : Option (aw_W) :=
  m_run_42 N N x1 x2 x3 0 w
theorem w_m_run_39 {l : Launch} {K : aw_K} (N d : Nat) (hd : 128 ≤ d) : ∀ (x1 x2 x3 : Int) (w v : aw_W), m_run_39 N x1 x2 x3 w = some v → aw_AW l K MX12_run (d + 1) 39 [(0, .inr (.inr 49)), (1, .inl x1), (2, .inl x2), (3, .inl x3)] [] w (none, v) := by
  intro x1 x2 x3 w v h
  unfold m_run_39 at h
  refine aw_iconst (pc := 39) dX12_run_39 ⟨by decide, by decide⟩ ?_
  refine aw_istore (pc := 40) (ls' := [(4, .inl 0), (0, .inr (.inr 49)), (1, .inl x1), (2, .inl x2), (3, .inl x3)]) dX12_run_40 (by decide) rfl ?_
  exact aw_sel [1, 2, 3, 4, 0] rfl (w_m_run_42 N d hd  N _ _ _ _ _ _ h)
def m_run_10 (N : Nat) : Nat → Int → Int → Int → Int → aw_W → Option (aw_W)
  | 0, _, _, _, _, _ => none
  | n + 1, x1, x2, x3, x4, w =>
    if 6 ≤ x4 then
      m_run_39 N x1 x2 x3 w
    else
      if 0 ≤ x4 ∧ x4 < 6 then
        if 0 ≤ x4 ∧ x4 < 600 then
          m_run_10 N n x1 x2 x3 (aw_w (x4 + 1)) (aw_up (aw_up w 62 x4.toNat (-1)) 61 x4.toNat 0)
        else none
      else none
theorem w_m_run_10 {l : Launch} {K : aw_K} (N d : Nat) (hd : 128 ≤ d) : ∀ (n : Nat) (x1 x2 x3 x4 : Int) (w v : aw_W), m_run_10 N n x1 x2 x3 x4 w = some v → aw_AW l K MX12_run (d + 1) 10 [(0, .inr (.inr 49)), (1, .inl x1), (2, .inl x2), (3, .inl x3), (4, .inl x4)] [] w (none, v) := by
  intro n
  induction n with
  | zero => intro x1 x2 x3 x4 w v h; rw [m_run_10] at h; cases h
  | succ n ih =>
    intro x1 x2 x3 x4 w v h
    rw [m_run_10] at h
    refine aw_iload (pc := 10) (q := 4) dX12_run_10 rfl ?_
    refine aw_bipush (pc := 12) dX12_run_12 (by decide) ⟨by decide, by decide⟩ ?_
    refine aw_icmp_ge (pc := 14) (tgt := 39) dX12_run_14 (by decide) (fun hc => ?_) (fun hc => ?_)
    · rw [if_pos hc] at h
      exact aw_sel [0, 1, 2, 3] rfl (w_m_run_39 N d hd  _ _ _ _ _ h)
    · rw [if_neg hc] at h
      refine aw_aload_n (pc := 17) (q := 0) dX12_run_17 rfl ?_
      refine aw_getf (pc := 18) (v := .inr (.inr 62)) dX12_run_18 fl_RX12_62 (by decide) rfl rfl rfl ?_
      refine aw_iload (pc := 21) (q := 4) dX12_run_21 rfl ?_
      refine aw_iconst (pc := 23) dX12_run_23 ⟨by decide, by decide⟩ ?_
      obtain ⟨hb, h⟩ := aw_cks h
      refine aw_iast (pc := 24) dX12_run_24 rfl hb.1 hb.2 ?_
      refine aw_aload_n (pc := 25) (q := 0) dX12_run_25 rfl ?_
      refine aw_getf (pc := 26) (v := .inr (.inr 61)) dX12_run_26 fl_RX12_59 (by decide) rfl rfl rfl ?_
      refine aw_iload (pc := 29) (q := 4) dX12_run_29 rfl ?_
      refine aw_iconst (pc := 31) dX12_run_31 ⟨by decide, by decide⟩ ?_
      obtain ⟨hb, h⟩ := aw_cks h
      refine aw_iast (pc := 32) dX12_run_32 rfl hb.1 hb.2 ?_
      refine aw_iinc (pc := 33) (q := 4) (ls' := [(4, .inl (aw_w (x4 + 1))), (0, .inr (.inr 49)), (1, .inl x1), (2, .inl x2), (3, .inl x3)]) dX12_run_33 rfl (by decide) rfl ?_
      refine aw_goto (pc := 36) (tgt := 10) dX12_run_36 (by decide) ?_
      exact aw_sel [1, 2, 3, 4, 0] rfl (ih _ _ _ _ _ _ h)
def m_run (N : Nat) (x1 x2 : Int) (w : aw_W) : Option (aw_W) :=
  m_run_10 N N x1 x2 0 0 (aw_up w 49 31 (-1))
theorem w_m_run_d {l : Launch} {K : aw_K} (N d : Nat) (hd : 128 ≤ d) : ∀ (x1 x2 : Int) (w v : aw_W), m_run N x1 x2 w = some v → aw_Met l K MX12_run (d + 1) [.inr (.inr 49), .inl x1, .inl x2] w (none, v) := by
  intro x1 x2 w v h
  unfold m_run at h
  refine aw_enter rfl (Nat.le_of_ble_eq_true rfl) ?_
  show aw_AW l K MX12_run (d + 1) 0 [(0, .inr (.inr 49)), (1, .inl x1), (2, .inl x2)] [] w (none, v)
  refine aw_iconst (pc := 0) dX12_run_0 ⟨by decide, by decide⟩ ?_
  refine aw_istore_n (pc := 1) (ls' := [(3, .inl 0), (0, .inr (.inr 49)), (1, .inl x1), (2, .inl x2)]) dX12_run_1 (by decide) rfl ?_
  refine aw_aload_n (pc := 2) (q := 1) dX12_run_2 rfl ?_
  refine aw_iconst (pc := 3) dX12_run_3 ⟨by decide, by decide⟩ ?_
  refine aw_puti (pc := 4) dX12_run_4 fp_RX12_301 (by decide) rfl rfl ?_
  refine aw_iconst (pc := 7) dX12_run_7 ⟨by decide, by decide⟩ ?_
  refine aw_istore (pc := 8) (ls' := [(4, .inl 0), (3, .inl 0), (0, .inr (.inr 49)), (1, .inl x1), (2, .inl x2)]) dX12_run_8 (by decide) rfl ?_
  exact aw_sel [2, 3, 4, 1, 0] rfl (w_m_run_10 N d hd  N _ _ _ _ _ _ h)
theorem w_m_run {l : Launch} {K : aw_K} (N d : Nat) (hd : 129 ≤ d) : ∀ (x1 x2 : Int) (w v : aw_W), m_run N x1 x2 w = some v → aw_Met l K MX12_run (d) [.inr (.inr 49), .inl x1, .inl x2] w (none, v) := by
  obtain ⟨e, rfl⟩ : ∃ e, d = e + 1 := ⟨d - 1, by omega⟩
  exact w_m_run_d N e (by omega)
