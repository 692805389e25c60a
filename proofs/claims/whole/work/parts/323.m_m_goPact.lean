theorem dX12_goPact_0 : decode cX12_goPact 0 = .ok (.iload_n 2, 1) := by decide +kernel
theorem dX12_goPact_1 : decode cX12_goPact 1 = .ok (.aload_n 0, 1) := by decide +kernel
theorem dX12_goPact_2 : decode cX12_goPact 2 = .ok (.getfield 270, 3) := by decide +kernel
theorem dX12_goPact_5 : decode cX12_goPact 5 = .ok (.if_icmp .ne 76, 3) := by decide +kernel
theorem dX12_goPact_8 : decode cX12_goPact 8 = .ok (.iconst 0, 1) := by decide +kernel
theorem dX12_goPact_9 : decode cX12_goPact 9 = .ok (.istore_n 3, 1) := by decide +kernel
theorem dX12_goPact_10 : decode cX12_goPact 10 = .ok (.iconst 0, 1) := by decide +kernel
theorem dX12_goPact_11 : decode cX12_goPact 11 = .ok (.istore 4, 2) := by decide +kernel
theorem dX12_goPact_13 : decode cX12_goPact 13 = .ok (.iload 4, 2) := by decide +kernel
theorem dX12_goPact_15 : decode cX12_goPact 15 = .ok (.aload_n 0, 1) := by decide +kernel
theorem dX12_goPact_16 : decode cX12_goPact 16 = .ok (.getfield 270, 3) := by decide +kernel
theorem dX12_goPact_19 : decode cX12_goPact 19 = .ok (.if_icmp .ge 31, 3) := by decide +kernel
theorem dX12_goPact_22 : decode cX12_goPact 22 = .ok (.iload_n 3, 1) := by decide +kernel
theorem dX12_goPact_23 : decode cX12_goPact 23 = .ok (.iload_n 1, 1) := by decide +kernel
theorem dX12_goPact_24 : decode cX12_goPact 24 = .ok (.iload 4, 2) := by decide +kernel
theorem dX12_goPact_26 : decode cX12_goPact 26 = .ok (.invokestatic 248, 3) := by decide +kernel
theorem dX12_goPact_29 : decode cX12_goPact 29 = .ok (.ifCond .eq 12, 3) := by decide +kernel
theorem dX12_goPact_32 : decode cX12_goPact 32 = .ok (.aload_n 0, 1) := by decide +kernel
theorem dX12_goPact_33 : decode cX12_goPact 33 = .ok (.iload 4, 2) := by decide +kernel
theorem dX12_goPact_35 : decode cX12_goPact 35 = .ok (.invokevirtual 348, 3) := by decide +kernel
theorem dX12_goPact_38 : decode cX12_goPact 38 = .ok (.goto 4, 3) := by decide +kernel
theorem dX12_goPact_41 : decode cX12_goPact 41 = .ok (.iconst 0, 1) := by decide +kernel
theorem dX12_goPact_42 : decode cX12_goPact 42 = .ok (.iadd, 1) := by decide +kernel
theorem dX12_goPact_43 : decode cX12_goPact 43 = .ok (.istore_n 3, 1) := by decide +kernel
theorem dX12_goPact_44 : decode cX12_goPact 44 = .ok (.iinc 4 1, 3) := by decide +kernel
theorem dX12_goPact_47 : decode cX12_goPact 47 = .ok (.goto (-34), 3) := by decide +kernel
theorem dX12_goPact_50 : decode cX12_goPact 50 = .ok (.aload_n 0, 1) := by decide +kernel
theorem dX12_goPact_51 : decode cX12_goPact 51 = .ok (.getfield 372, 3) := by decide +kernel
theorem dX12_goPact_54 : decode cX12_goPact 54 = .ok (.iconst (-1), 1) := by decide +kernel
theorem dX12_goPact_55 : decode cX12_goPact 55 = .ok (.if_icmp .eq 12, 3) := by decide +kernel
theorem dX12_goPact_58 : decode cX12_goPact 58 = .ok (.iload_n 3, 1) := by decide +kernel
theorem dX12_goPact_59 : decode cX12_goPact 59 = .ok (.aload_n 0, 1) := by decide +kernel
theorem dX12_goPact_60 : decode cX12_goPact 60 = .ok (.getfield 375, 3) := by decide +kernel
theorem dX12_goPact_63 : decode cX12_goPact 63 = .ok (.if_icmp .gt 4, 3) := by decide +kernel
theorem dX12_goPact_66 : decode cX12_goPact 66 = .ok (.return_, 1) := by decide +kernel
theorem dX12_goPact_67 : decode cX12_goPact 67 = .ok (.aload_n 0, 1) := by decide +kernel
theorem dX12_goPact_68 : decode cX12_goPact 68 = .ok (.iload_n 3, 1) := by decide +kernel
theorem dX12_goPact_69 : decode cX12_goPact 69 = .ok (.putfield 375, 3) := by decide +kernel
theorem dX12_goPact_72 : decode cX12_goPact 72 = .ok (.aload_n 0, 1) := by decide +kernel
theorem dX12_goPact_73 : decode cX12_goPact 73 = .ok (.aload_n 0, 1) := by decide +kernel
theorem dX12_goPact_74 : decode cX12_goPact 74 = .ok (.invokevirtual 378, 3) := by decide +kernel
theorem dX12_goPact_77 : decode cX12_goPact 77 = .ok (.putfield 372, 3) := by decide +kernel
theorem dX12_goPact_80 : decode cX12_goPact 80 = .ok (.return_, 1) := by decide +kernel
theorem dX12_goPact_81 : decode cX12_goPact 81 = .ok (.iload_n 1, 1) := by decide +kernel
theorem dX12_goPact_82 : decode cX12_goPact 82 = .ok (.iload_n 2, 1) := by decide +kernel
theorem dX12_goPact_83 : decode cX12_goPact 83 = .ok (.invokestatic 248, 3) := by decide +kernel
theorem dX12_goPact_86 : decode cX12_goPact 86 = .ok (.ifCond .ne 12, 3) := by decide +kernel
theorem dX12_goPact_89 : decode cX12_goPact 89 = .ok (.aload_n 0, 1) := by decide +kernel
theorem dX12_goPact_90 : decode cX12_goPact 90 = .ok (.iload_n 1, 1) := by decide +kernel
theorem dX12_goPact_91 : decode cX12_goPact 91 = .ok (.iload_n 2, 1) := by decide +kernel
theorem dX12_goPact_92 : decode cX12_goPact 92 = .ok (.iconst 1, 1) := by decide +kernel
theorem dX12_goPact_93 : decode cX12_goPact 93 = .ok (.iadd, 1) := by decide +kernel
theorem dX12_goPact_94 : decode cX12_goPact 94 = .ok (.invokevirtual 381, 3) := by decide +kernel
theorem dX12_goPact_97 : decode cX12_goPact 97 = .ok (.return_, 1) := by decide +kernel
theorem dX12_goPact_98 : decode cX12_goPact 98 = .ok (.aload_n 0, 1) := by decide +kernel
theorem dX12_goPact_99 : decode cX12_goPact 99 = .ok (.getfield 72, 3) := by decide +kernel
theorem dX12_goPact_102 : decode cX12_goPact 102 = .ok (.iload_n 2, 1) := by decide +kernel
theorem dX12_goPact_103 : decode cX12_goPact 103 = .ok (.iaload, 1) := by decide +kernel
theorem dX12_goPact_104 : decode cX12_goPact 104 = .ok (.istore_n 3, 1) := by decide +kernel
theorem dX12_goPact_105 : decode cX12_goPact 105 = .ok (.iconst 0, 1) := by decide +kernel
theorem dX12_goPact_106 : decode cX12_goPact 106 = .ok (.istore 4, 2) := by decide +kernel
theorem dX12_goPact_108 : decode cX12_goPact 108 = .ok (.iload 4, 2) := by decide +kernel
theorem dX12_goPact_110 : decode cX12_goPact 110 = .ok (.aload_n 0, 1) := by decide +kernel
theorem dX12_goPact_111 : decode cX12_goPact 111 = .ok (.getfield 43, 3) := by decide +kernel
theorem dX12_goPact_114 : decode cX12_goPact 114 = .ok (.iconst 4, 1) := by decide +kernel
theorem dX12_goPact_115 : decode cX12_goPact 115 = .ok (.iaload, 1) := by decide +kernel
theorem dX12_goPact_116 : decode cX12_goPact 116 = .ok (.if_icmp .gt 25, 3) := by decide +kernel
theorem dX12_goPact_119 : decode cX12_goPact 119 = .ok (.aload_n 0, 1) := by decide +kernel
theorem dX12_goPact_120 : decode cX12_goPact 120 = .ok (.getfield 72, 3) := by decide +kernel
theorem dX12_goPact_123 : decode cX12_goPact 123 = .ok (.iload_n 2, 1) := by decide +kernel
theorem dX12_goPact_124 : decode cX12_goPact 124 = .ok (.iload 4, 2) := by decide +kernel
theorem dX12_goPact_126 : decode cX12_goPact 126 = .ok (.iastore, 1) := by decide +kernel
theorem dX12_goPact_127 : decode cX12_goPact 127 = .ok (.aload_n 0, 1) := by decide +kernel
theorem dX12_goPact_128 : decode cX12_goPact 128 = .ok (.iload_n 1, 1) := by decide +kernel
theorem dX12_goPact_129 : decode cX12_goPact 129 = .ok (.iload_n 2, 1) := by decide +kernel
theorem dX12_goPact_130 : decode cX12_goPact 130 = .ok (.iconst 1, 1) := by decide +kernel
theorem dX12_goPact_131 : decode cX12_goPact 131 = .ok (.iadd, 1) := by decide +kernel
theorem dX12_goPact_132 : decode cX12_goPact 132 = .ok (.invokevirtual 381, 3) := by decide +kernel
theorem dX12_goPact_135 : decode cX12_goPact 135 = .ok (.iinc 4 1, 3) := by decide +kernel
theorem dX12_goPact_138 : decode cX12_goPact 138 = .ok (.goto (-30), 3) := by decide +kernel
theorem dX12_goPact_141 : decode cX12_goPact 141 = .ok (.aload_n 0, 1) := by decide +kernel
theorem dX12_goPact_142 : decode cX12_goPact 142 = .ok (.getfield 72, 3) := by decide +kernel
theorem dX12_goPact_145 : decode cX12_goPact 145 = .ok (.iload_n 2, 1) := by decide +kernel
theorem dX12_goPact_146 : decode cX12_goPact 146 = .ok (.iload_n 3, 1) := by decide +kernel
theorem dX12_goPact_147 : decode cX12_goPact 147 = .ok (.iastore, 1) := by decide +kernel
theorem dX12_goPact_148 : decode cX12_goPact 148 = .ok (.return_, 1) := by decide +kernel
def m_goPact_141 (c_m_goPact : Int → Int → aw_W → Option (aw_W)) (N : Nat) (x2 x3 : Int) (w : aw_W) : Option (aw_W) :=
  if 0 ≤ x2 ∧ x2 < 6 then
    some (aw_up w 64 x2.toNat x3)
  else none
theorem w_m_goPact_141 {l : Launch} {K : aw_K} (N d : Nat) (hd : 3 ≤ d) (c_m_goPact : Int → Int → aw_W → Option (aw_W)) (hc_m_goPact : ∀ (x1 x2 : Int) (w v : aw_W), c_m_goPact x1 x2 w = some v → aw_Met l K MX12_goPact (d) [.inr (.inr 49), .inl x1, .inl x2] w (none, v)) : ∀ (x2 x3 : Int) (w v : aw_W), m_goPact_141 c_m_goPact N x2 x3 w = some v → aw_AW l K MX12_goPact (d + 1) 141 [(0, .inr (.inr 49)), (2, .inl x2), (3, .inl x3)] [] w (none, v) := by
  intro x2 x3 w v h
  unfold m_goPact_141 at h
  refine aw_aload_n (pc := 141) (q := 0) dX12_goPact_141 rfl ?_
  refine aw_getf (pc := 142) (v := .inr (.inr 64)) dX12_goPact_142 fl_RX12_72 (by decide) rfl rfl rfl ?_
  refine aw_iload_n (pc := 145) (q := 1) dX12_goPact_145 rfl ?_
  refine aw_iload_n (pc := 146) (q := 2) dX12_goPact_146 rfl ?_
  obtain ⟨hb, h⟩ := aw_cks h
  refine aw_iast (pc := 147) dX12_goPact_147 rfl hb.1 hb.2 ?_
  cases h
  exact aw_vret (pc := 148) rfl dX12_goPact_148
def m_goPact_108 (c_m_goPact : Int → Int → aw_W → Option (aw_W)) (N : Nat) : Nat → Int → Int → Int → Int → aw_W → Option (aw_W)
  | 0, _, _, _, _, _ => none
  | n + 1, x1, x2, x3, x4, w =>
    if (w 56 4) < x4 then
      m_goPact_141 c_m_goPact N x2 x3 w
    else
      if 0 ≤ x2 ∧ x2 < 6 then
        aw_b1 (c_m_goPact x1 (aw_w (x2 + 1)) (aw_up w 64 x2.toNat x4)) fun w1 =>
          m_goPact_108 c_m_goPact N n x1 x2 x3 (aw_w (x4 + 1)) w1
      else none
theorem w_m_goPact_108 {l : Launch} {K : aw_K} (N d : Nat) (hd : 3 ≤ d) (c_m_goPact : Int → Int → aw_W → Option (aw_W)) (hc_m_goPact : ∀ (x1 x2 : Int) (w v : aw_W), c_m_goPact x1 x2 w = some v → aw_Met l K MX12_goPact (d) [.inr (.inr 49), .inl x1, .inl x2] w (none, v)) : ∀ (n : Nat) (x1 x2 x3 x4 : Int) (w v : aw_W), m_goPact_108 c_m_goPact N n x1 x2 x3 x4 w = some v → aw_AW l K MX12_goPact (d + 1) 108 [(0, .inr (.inr 49)), (1, .inl x1), (2, .inl x2), (3, .inl x3), (4, .inl x4)] [] w (none, v) := by
  intro n
  induction n with
  | zero => intro x1 x2 x3 x4 w v h; rw [m_goPact_108] at h; cases h
  | succ n ih =>
    intro x1 x2 x3 x4 w v h
    rw [m_goPact_108] at h
    refine aw_iload (pc := 108) (q := 4) dX12_goPact_108 rfl ?_
    refine aw_aload_n (pc := 110) (q := 0) dX12_goPact_110 rfl ?_
    refine aw_getf (pc := 111) (v := .inr (.inr 56)) dX12_goPact_111 fl_RX12_43 (by decide) rfl rfl rfl ?_
    refine aw_iconst (pc := 114) dX12_goPact_114 ⟨by decide, by decide⟩ ?_
    refine aw_ialdv (pc := 115) (v := w 56 4) dX12_goPact_115 rfl (by decide) (by decide) rfl ?_
    refine aw_icmp_gt (pc := 116) (tgt := 141) dX12_goPact_116 (by decide) (fun hc => ?_) (fun hc => ?_)
    · rw [if_pos hc] at h
      exact aw_sel [0, 2, 3] rfl (w_m_goPact_141 N d hd c_m_goPact hc_m_goPact  _ _ _ _ h)
    · rw [if_neg hc] at h
      refine aw_aload_n (pc := 119) (q := 0) dX12_goPact_119 rfl ?_
      refine aw_getf (pc := 120) (v := .inr (.inr 64)) dX12_goPact_120 fl_RX12_72 (by decide) rfl rfl rfl ?_
      refine aw_iload_n (pc := 123) (q := 2) dX12_goPact_123 rfl ?_
      refine aw_iload (pc := 124) (q := 4) dX12_goPact_124 rfl ?_
      obtain ⟨hb, h⟩ := aw_cks h
      refine aw_iast (pc := 126) dX12_goPact_126 rfl hb.1 hb.2 ?_
      refine aw_aload_n (pc := 127) (q := 0) dX12_goPact_127 rfl ?_
      refine aw_iload_n (pc := 128) (q := 1) dX12_goPact_128 rfl ?_
      refine aw_iload_n (pc := 129) (q := 2) dX12_goPact_129 rfl ?_
      refine aw_iconst (pc := 130) dX12_goPact_130 ⟨by decide, by decide⟩ ?_
      refine aw_iadd (pc := 131) dX12_goPact_131 ?_
      obtain ⟨w1, h1, h⟩ := aw_b1s h
      refine aw_callV (pc := 132) (as := [.inl x1, .inl (aw_w (x2 + 1))]) (st := []) (st' := []) dX12_goPact_132 cv_RX12_381 (by decide) rfl rfl rfl rfl (Nat.le_of_ble_eq_true rfl) (hc_m_goPact _ _ _ _ h1) rfl ?_
      refine aw_iinc (pc := 135) (q := 4) (ls' := [(4, .inl (aw_w (x4 + 1))), (0, .inr (.inr 49)), (1, .inl x1), (2, .inl x2), (3, .inl x3)]) dX12_goPact_135 rfl (by decide) rfl ?_
      refine aw_goto (pc := 138) (tgt := 108) dX12_goPact_138 (by decide) ?_
      exact aw_sel [1, 2, 3, 4, 0] rfl (ih _ _ _ _ _ _ h)
def m_goPact_67 (c_m_goPact : Int → Int → aw_W → Option (aw_W)) (N : Nat) (x3 : Int) (w : aw_W) : Option (aw_W) :=
  aw_b2 (m_rowOf N (aw_up w 49 36 x3)) fun r1 w1 =>
    some (aw_up w1 49 37 r1)
theorem w_m_goPact_67 {l : Launch} {K : aw_K} (N d : Nat) (hd : 3 ≤ d) (c_m_goPact : Int → Int → aw_W → Option (aw_W)) (hc_m_goPact : ∀ (x1 x2 : Int) (w v : aw_W), c_m_goPact x1 x2 w = some v → aw_Met l K MX12_goPact (d) [.inr (.inr 49), .inl x1, .inl x2] w (none, v)) : ∀ (x3 : Int) (w v : aw_W), m_goPact_67 c_m_goPact N x3 w = some v → aw_AW l K MX12_goPact (d + 1) 67 [(0, .inr (.inr 49)), (3, .inl x3)] [] w (none, v) := by
  intro x3 w v h
  unfold m_goPact_67 at h
  refine aw_aload_n (pc := 67) (q := 0) dX12_goPact_67 rfl ?_
  refine aw_iload_n (pc := 68) (q := 1) dX12_goPact_68 rfl ?_
  refine aw_puti (pc := 69) dX12_goPact_69 fp_RX12_375 (by decide) rfl rfl ?_
  refine aw_aload_n (pc := 72) (q := 0) dX12_goPact_72 rfl ?_
  refine aw_aload_n (pc := 73) (q := 0) dX12_goPact_73 rfl ?_
  obtain ⟨r1, w1, h1, h⟩ := aw_b2s h
  refine aw_callV (pc := 74) (as := []) (st := [.inr (.inr 49)]) (st' := [.inl r1, .inr (.inr 49)]) dX12_goPact_74 cv_RX12_378 (by decide) rfl rfl rfl rfl (Nat.le_of_ble_eq_true rfl) (w_m_rowOf N d (by omega) _ _ _ h1) rfl ?_
  refine aw_puti (pc := 77) dX12_goPact_77 fp_RX12_372 (by decide) rfl rfl ?_
  cases h
  exact aw_vret (pc := 80) rfl dX12_goPact_80
def m_goPact_50 (c_m_goPact : Int → Int → aw_W → Option (aw_W)) (N : Nat) (x3 : Int) (w : aw_W) : Option (aw_W) :=
  if (w 49 37) = (-1) then
    m_goPact_67 c_m_goPact N x3 w
  else
    if (w 49 36) < x3 then
      m_goPact_67 c_m_goPact N x3 w
    else
      some w
theorem w_m_goPact_50 {l : Launch} {K : aw_K} (N d : Nat) (hd : 3 ≤ d) (c_m_goPact : Int → Int → aw_W → Option (aw_W)) (hc_m_goPact : ∀ (x1 x2 : Int) (w v : aw_W), c_m_goPact x1 x2 w = some v → aw_Met l K MX12_goPact (d) [.inr (.inr 49), .inl x1, .inl x2] w (none, v)) : ∀ (x3 : Int) (w v : aw_W), m_goPact_50 c_m_goPact N x3 w = some v → aw_AW l K MX12_goPact (d + 1) 50 [(0, .inr (.inr 49)), (3, .inl x3)] [] w (none, v) := by
  intro x3 w v h
  unfold m_goPact_50 at h
  refine aw_aload_n (pc := 50) (q := 0) dX12_goPact_50 rfl ?_
  refine aw_getf (pc := 51) (v := .inl (w 49 37)) dX12_goPact_51 fl_RX12_372 (by decide) rfl rfl rfl ?_
  refine aw_iconst (pc := 54) dX12_goPact_54 ⟨by decide, by decide⟩ ?_
  refine aw_icmp_eq (pc := 55) (tgt := 67) dX12_goPact_55 (by decide) (fun hc => ?_) (fun hc => ?_)
  · rw [if_pos hc] at h
    exact aw_sel [0, 1] rfl (w_m_goPact_67 N d hd c_m_goPact hc_m_goPact  _ _ _ h)
  · rw [if_neg hc] at h
    refine aw_iload_n (pc := 58) (q := 1) dX12_goPact_58 rfl ?_
    refine aw_aload_n (pc := 59) (q := 0) dX12_goPact_59 rfl ?_
    refine aw_getf (pc := 60) (v := .inl (w 49 36)) dX12_goPact_60 fl_RX12_375 (by decide) rfl rfl rfl ?_
    refine aw_icmp_gt (pc := 63) (tgt := 67) dX12_goPact_63 (by decide) (fun hc => ?_) (fun hc => ?_)
    · rw [if_pos hc] at h
      exact aw_sel [0, 1] rfl (w_m_goPact_67 N d hd c_m_goPact hc_m_goPact  _ _ _ h)
    · rw [if_neg hc] at h
      cases h
      exact aw_vret (pc := 66) rfl dX12_goPact_66
def m_goPact_42 (c_m_goPact : Int → Int → aw_W → Option (aw_W)) (N : Nat) (k13 : Int → Int → Int → aw_W → Option (aw_W)) (x1 x4 s0 s1 : Int) (w : aw_W) : Option (aw_W) :=
  k13 x1 (aw_w (s1 + s0)) (aw_w (x4 + 1)) w
theorem w_m_goPact_42 {l : Launch} {K : aw_K} (N d : Nat) (hd : 3 ≤ d) (c_m_goPact : Int → Int → aw_W → Option (aw_W)) (hc_m_goPact : ∀ (x1 x2 : Int) (w v : aw_W), c_m_goPact x1 x2 w = some v → aw_Met l K MX12_goPact (d) [.inr (.inr 49), .inl x1, .inl x2] w (none, v)) (k13 : Int → Int → Int → aw_W → Option (aw_W)) (hk13 : ∀ (x1 x3 x4 : Int) (w v : aw_W), k13 x1 x3 x4 w = some v → aw_AW l K MX12_goPact (d + 1) 13 [(0, .inr (.inr 49)), (1, .inl x1), (3, .inl x3), (4, .inl x4)] [] w (none, v)) : ∀ (x1 x4 s0 s1 : Int) (w v : aw_W), m_goPact_42 c_m_goPact N k13 x1 x4 s0 s1 w = some v → aw_AW l K MX12_goPact (d + 1) 42 [(0, .inr (.inr 49)), (1, .inl x1), (4, .inl x4)] [.inl s0, .inl s1] w (none, v) := by
  intro x1 x4 s0 s1 w v h
  unfold m_goPact_42 at h
  refine aw_iadd (pc := 42) dX12_goPact_42 ?_
  refine aw_istore_n (pc := 43) (ls' := [(3, .inl (aw_w (s1 + s0))), (0, .inr (.inr 49)), (1, .inl x1), (4, .inl x4)]) dX12_goPact_43 (by decide) rfl ?_
  refine aw_iinc (pc := 44) (q := 3) (ls' := [(4, .inl (aw_w (x4 + 1))), (3, .inl (aw_w (s1 + s0))), (0, .inr (.inr 49)), (1, .inl x1)]) dX12_goPact_44 rfl (by decide) rfl ?_
  refine aw_goto (pc := 47) (tgt := 13) dX12_goPact_47 (by decide) ?_
  exact aw_sel [2, 3, 1, 0] rfl (hk13 _ _ _ _ _ h)
def m_goPact_13 (c_m_goPact : Int → Int → aw_W → Option (aw_W)) (N : Nat) : Nat → Int → Int → Int → aw_W → Option (aw_W)
  | 0, _, _, _, _ => none
  | n + 1, x1, x3, x4, w =>
    if (w 49 22) ≤ x4 then
      m_goPact_50 c_m_goPact N x3 w
    else
      aw_b2 (m_has N x1 x4 w) fun r1 w1 =>
        if r1 = 0 then
          m_goPact_42 c_m_goPact N (m_goPact_13 c_m_goPact N n) x1 x4 0 x3 w1
        else
          aw_b2 (m_gainOf N x4 w1) fun r2 w2 =>
            m_goPact_42 c_m_goPact N (m_goPact_13 c_m_goPact N n) x1 x4 r2 x3 w2
theorem w_m_goPact_13 {l : Launch} {K : aw_K} (N d : Nat) (hd : 3 ≤ d) (c_m_goPact : Int → Int → aw_W → Option (aw_W)) (hc_m_goPact : ∀ (x1 x2 : Int) (w v : aw_W), c_m_goPact x1 x2 w = some v → aw_Met l K MX12_goPact (d) [.inr (.inr 49), .inl x1, .inl x2] w (none, v)) : ∀ (n : Nat) (x1 x3 x4 : Int) (w v : aw_W), m_goPact_13 c_m_goPact N n x1 x3 x4 w = some v → aw_AW l K MX12_goPact (d + 1) 13 [(0, .inr (.inr 49)), (1, .inl x1), (3, .inl x3), (4, .inl x4)] [] w (none, v) := by
  intro n
  induction n with
  | zero => intro x1 x3 x4 w v h; rw [m_goPact_13] at h; cases h
  | succ n ih =>
    intro x1 x3 x4 w v h
    rw [m_goPact_13] at h
    refine aw_iload (pc := 13) (q := 3) dX12_goPact_13 rfl ?_
    refine aw_aload_n (pc := 15) (q := 0) dX12_goPact_15 rfl ?_
    refine aw_getf (pc := 16) (v := .inl (w 49 22)) dX12_goPact_16 fl_RX12_270 (by decide) rfl rfl rfl ?_
    refine aw_icmp_ge (pc := 19) (tgt := 50) dX12_goPact_19 (by decide) (fun hc => ?_) (fun hc => ?_)
    · rw [if_pos hc] at h
      exact aw_sel [0, 2] rfl (w_m_goPact_50 N d hd c_m_goPact hc_m_goPact  _ _ _ h)
    · rw [if_neg hc] at h
      refine aw_iload_n (pc := 22) (q := 2) dX12_goPact_22 rfl ?_
      refine aw_iload_n (pc := 23) (q := 1) dX12_goPact_23 rfl ?_
      refine aw_iload (pc := 24) (q := 3) dX12_goPact_24 rfl ?_
      obtain ⟨r1, w1, h1, h⟩ := aw_b2s h
      refine aw_callS (pc := 26) (as := [.inl x1, .inl x4]) (st := [.inl x3]) (st' := [.inl r1, .inl x3]) dX12_goPact_26 cs_RX12_248 rfl rfl (Nat.le_of_ble_eq_true rfl) (w_m_has N d (by omega) _ _ _ _ _ h1) rfl ?_
      refine aw_if_eq (pc := 29) (tgt := 41) dX12_goPact_29 (by decide) (fun hc => ?_) (fun hc => ?_)
      · rw [if_pos hc] at h
        refine aw_iconst (pc := 41) dX12_goPact_41 ⟨by decide, by decide⟩ ?_
        exact aw_sel [0, 1, 3] rfl (w_m_goPact_42 N d hd c_m_goPact hc_m_goPact  _ ih _ _ _ _ _ _ h)
      · rw [if_neg hc] at h
        refine aw_aload_n (pc := 32) (q := 0) dX12_goPact_32 rfl ?_
        refine aw_iload (pc := 33) (q := 3) dX12_goPact_33 rfl ?_
        obtain ⟨r2, w2, h2, h⟩ := aw_b2s h
        refine aw_callV (pc := 35) (as := [.inl x4]) (st := [.inl x3]) (st' := [.inl r2, .inl x3]) dX12_goPact_35 cv_RX12_348 (by decide) rfl rfl rfl rfl (Nat.le_of_ble_eq_true rfl) (w_m_gainOf N d (by omega) _ _ _ _ h2) rfl ?_
        refine aw_goto (pc := 38) (tgt := 42) dX12_goPact_38 (by decide) ?_
        exact aw_sel [0, 1, 3] rfl (w_m_goPact_42 N d hd c_m_goPact hc_m_goPact  _ ih _ _ _ _ _ _ h)
def m_goPact_b (c_m_goPact : Int → Int → aw_W → Option (aw_W)) (N : Nat) (x1 x2 : Int) (w : aw_W) : Option (aw_W) :=
  if x2 = (w 49 22) then
    m_goPact_13 c_m_goPact N N x1 0 0 w
  else
    aw_b2 (m_has N x1 x2 w) fun r1 w1 =>
      if r1 = 0 then
        aw_b1 (c_m_goPact x1 (aw_w (x2 + 1)) w1) fun w2 =>
          some w2
      else
        if 0 ≤ x2 ∧ x2 < 6 then
          m_goPact_108 c_m_goPact N N x1 x2 (w1 64 x2.toNat) 0 w1
        else none
theorem w_m_goPact_b {l : Launch} {K : aw_K} (N d : Nat) (hd : 3 ≤ d) (c_m_goPact : Int → Int → aw_W → Option (aw_W)) (hc_m_goPact : ∀ (x1 x2 : Int) (w v : aw_W), c_m_goPact x1 x2 w = some v → aw_Met l K MX12_goPact (d) [.inr (.inr 49), .inl x1, .inl x2] w (none, v)) : ∀ (x1 x2 : Int) (w v : aw_W), m_goPact_b c_m_goPact N x1 x2 w = some v → aw_Met l K MX12_goPact (d + 1) [.inr (.inr 49), .inl x1, .inl x2] w (none, v) := by
  intro x1 x2 w v h
  unfold m_goPact_b at h
  refine aw_enter rfl (Nat.le_of_ble_eq_true rfl) ?_
  show aw_AW l K MX12_goPact (d + 1) 0 [(0, .inr (.inr 49)), (1, .inl x1), (2, .inl x2)] [] w (none, v)
  refine aw_iload_n (pc := 0) (q := 2) dX12_goPact_0 rfl ?_
  refine aw_aload_n (pc := 1) (q := 0) dX12_goPact_1 rfl ?_
  refine aw_getf (pc := 2) (v := .inl (w 49 22)) dX12_goPact_2 fl_RX12_270 (by decide) rfl rfl rfl ?_
  refine aw_icmp_ne (pc := 5) (tgt := 81) dX12_goPact_5 (by decide) (fun hc => ?_) (fun hc => ?_)
  · rw [if_neg hc] at h
    refine aw_iload_n (pc := 81) (q := 1) dX12_goPact_81 rfl ?_
    refine aw_iload_n (pc := 82) (q := 2) dX12_goPact_82 rfl ?_
    obtain ⟨r1, w1, h1, h⟩ := aw_b2s h
    refine aw_callS (pc := 83) (as := [.inl x1, .inl x2]) (st := []) (st' := [.inl r1]) dX12_goPact_83 cs_RX12_248 rfl rfl (Nat.le_of_ble_eq_true rfl) (w_m_has N d (by omega) _ _ _ _ _ h1) rfl ?_
    refine aw_if_ne (pc := 86) (tgt := 98) dX12_goPact_86 (by decide) (fun hc => ?_) (fun hc => ?_)
    · rw [if_neg hc] at h
      refine aw_aload_n (pc := 98) (q := 0) dX12_goPact_98 rfl ?_
      refine aw_getf (pc := 99) (v := .inr (.inr 64)) dX12_goPact_99 fl_RX12_72 (by decide) rfl rfl rfl ?_
      refine aw_iload_n (pc := 102) (q := 2) dX12_goPact_102 rfl ?_
      obtain ⟨hb, h⟩ := aw_cks h
      refine aw_ialdv (pc := 103) (v := w1 64 x2.toNat) dX12_goPact_103 rfl hb.1 hb.2 rfl ?_
      refine aw_istore_n (pc := 104) (ls' := [(3, .inl (w1 64 x2.toNat)), (0, .inr (.inr 49)), (1, .inl x1), (2, .inl x2)]) dX12_goPact_104 (by decide) rfl ?_
      refine aw_iconst (pc := 105) dX12_goPact_105 ⟨by decide, by decide⟩ ?_
      refine aw_istore (pc := 106) (ls' := [(4, .inl 0), (3, .inl (w1 64 x2.toNat)), (0, .inr (.inr 49)), (1, .inl x1), (2, .inl x2)]) dX12_goPact_106 (by decide) rfl ?_
      exact aw_sel [2, 3, 4, 1, 0] rfl (w_m_goPact_108 N d hd c_m_goPact hc_m_goPact  N _ _ _ _ _ _ h)
    · rw [if_pos hc] at h
      refine aw_aload_n (pc := 89) (q := 0) dX12_goPact_89 rfl ?_
      refine aw_iload_n (pc := 90) (q := 1) dX12_goPact_90 rfl ?_
      refine aw_iload_n (pc := 91) (q := 2) dX12_goPact_91 rfl ?_
      refine aw_iconst (pc := 92) dX12_goPact_92 ⟨by decide, by decide⟩ ?_
      refine aw_iadd (pc := 93) dX12_goPact_93 ?_
      obtain ⟨w2, h2, h⟩ := aw_b1s h
      refine aw_callV (pc := 94) (as := [.inl x1, .inl (aw_w (x2 + 1))]) (st := []) (st' := []) dX12_goPact_94 cv_RX12_381 (by decide) rfl rfl rfl rfl (Nat.le_of_ble_eq_true rfl) (hc_m_goPact _ _ _ _ h2) rfl ?_
      cases h
      exact aw_vret (pc := 97) rfl dX12_goPact_97
  · rw [if_pos hc] at h
    refine aw_iconst (pc := 8) dX12_goPact_8 ⟨by decide, by decide⟩ ?_
    refine aw_istore_n (pc := 9) (ls' := [(3, .inl 0), (0, .inr (.inr 49)), (1, .inl x1), (2, .inl x2)]) dX12_goPact_9 (by decide) rfl ?_
    refine aw_iconst (pc := 10) dX12_goPact_10 ⟨by decide, by decide⟩ ?_
    refine aw_istore (pc := 11) (ls' := [(4, .inl 0), (3, .inl 0), (0, .inr (.inr 49)), (1, .inl x1), (2, .inl x2)]) dX12_goPact_11 (by decide) rfl ?_
    exact aw_sel [2, 3, 1, 0] rfl (w_m_goPact_13 N d hd c_m_goPact hc_m_goPact  N _ _ _ _ _ h)
def g_m_goPact (N : Nat) : Nat → (Int → Int → aw_W → Option (aw_W))
  | 0 => (fun _ _ _ => none)
  | D + 1 => m_goPact_b (g_m_goPact N D) N
def m_goPact (N : Nat) : Int → Int → aw_W → Option (aw_W) := (g_m_goPact N 60)
theorem w_g_m_goPact {l : Launch} {K : aw_K} (N : Nat) : ∀ D d : Nat, 3 + D ≤ d → (∀ (x1 x2 : Int) (w v : aw_W), (g_m_goPact N D) x1 x2 w = some v → aw_Met l K MX12_goPact (d) [.inr (.inr 49), .inl x1, .inl x2] w (none, v))
  | 0, d, _ => fun _ _ _ _ h => (by cases h)
  | D + 1, 0, h => absurd h (by omega)
  | D + 1, d + 1, h => by
    have ih := w_g_m_goPact (l := l) (K := K) N D d (by omega)
    exact w_m_goPact_b N d (by omega) _ ih
theorem w_m_goPact {l : Launch} {K : aw_K} (N d : Nat) (hd : 63 ≤ d) : ∀ (x1 x2 : Int) (w v : aw_W), m_goPact N x1 x2 w = some v → aw_Met l K MX12_goPact (d) [.inr (.inr 49), .inl x1, .inl x2] w (none, v) := (w_g_m_goPact N 60 d (by omega))
theorem dX12_goesPact_0 : decode cX12_goesPact 0 = .ok (.aload_n 0, 1) := by decide +kernel
theorem dX12_goesPact_1 : decode cX12_goesPact 1 = .ok (.iload_n 1, 1) := by decide +kernel
theorem dX12_goesPact_2 : decode cX12_goesPact 2 = .ok (.iload_n 2, 1) := by decide +kernel
theorem dX12_goesPact_3 : decode cX12_goesPact 3 = .ok (.invokevirtual 369, 3) := by decide +kernel
theorem dX12_goesPact_6 : decode cX12_goesPact 6 = .ok (.ifCond .eq 11, 3) := by decide +kernel
theorem dX12_goesPact_9 : decode cX12_goesPact 9 = .ok (.iload_n 2, 1) := by decide +kernel
theorem dX12_goesPact_10 : decode cX12_goesPact 10 = .ok (.invokestatic 335, 3) := by decide +kernel
theorem dX12_goesPact_13 : decode cX12_goesPact 13 = .ok (.iconst 4, 1) := by decide +kernel
theorem dX12_goesPact_14 : decode cX12_goesPact 14 = .ok (.if_icmp .le 5, 3) := by decide +kernel
theorem dX12_goesPact_17 : decode cX12_goesPact 17 = .ok (.iconst 0, 1) := by decide +kernel
theorem dX12_goesPact_18 : decode cX12_goesPact 18 = .ok (.ireturn, 1) := by decide +kernel
theorem dX12_goesPact_19 : decode cX12_goesPact 19 = .ok (.aload_n 0, 1) := by decide +kernel
theorem dX12_goesPact_20 : decode cX12_goesPact 20 = .ok (.iconst (-1), 1) := by decide +kernel
theorem dX12_goesPact_21 : decode cX12_goesPact 21 = .ok (.putfield 372, 3) := by decide +kernel
theorem dX12_goesPact_24 : decode cX12_goesPact 24 = .ok (.aload_n 0, 1) := by decide +kernel
theorem dX12_goesPact_25 : decode cX12_goesPact 25 = .ok (.iload_n 2, 1) := by decide +kernel
theorem dX12_goesPact_26 : decode cX12_goesPact 26 = .ok (.iconst 0, 1) := by decide +kernel
theorem dX12_goesPact_27 : decode cX12_goesPact 27 = .ok (.invokevirtual 381, 3) := by decide +kernel
theorem dX12_goesPact_30 : decode cX12_goesPact 30 = .ok (.iconst 1, 1) := by decide +kernel
theorem dX12_goesPact_31 : decode cX12_goesPact 31 = .ok (.ireturn, 1) := by decide +kernel
def m_goesPact_17 (N : Nat) (w : aw_W) : Option (Int × aw_W) :=
  some (0, w)
theorem w_m_goesPact_17 {l : Launch} {K : aw_K} (N d : Nat) (hd : 63 ≤ d) : ∀ (w : aw_W) (y : Int) (v : aw_W), m_goesPact_17 N w = some (y, v) → aw_AW l K MX12_goesPact (d + 1) 17 [] [] w (some (.inl y), v) := by
  intro w y v h
  unfold m_goesPact_17 at h
  refine aw_iconst (pc := 17) dX12_goesPact_17 ⟨by decide, by decide⟩ ?_
  cases h
  exact aw_zret (pc := 18) rfl (by decide) dX12_goesPact_18
def m_goesPact (N : Nat) (x1 x2 : Int) (w : aw_W) : Option (Int × aw_W) :=
  aw_b2 (m_isPact N x1 x2 w) fun r1 w1 =>
    if r1 = 0 then
      m_goesPact_17 N w1
    else
      aw_b2 (j_Int_bitCount N x2 w1) fun r2 w2 =>
        if r2 ≤ 4 then
          aw_b1 (m_goPact N x2 0 (aw_up w2 49 37 (-1))) fun w3 =>
            some (1, w3)
        else
          m_goesPact_17 N w2
theorem w_m_goesPact_d {l : Launch} {K : aw_K} (N d : Nat) (hd : 63 ≤ d) : ∀ (x1 x2 : Int) (w : aw_W) (y : Int) (v : aw_W), m_goesPact N x1 x2 w = some (y, v) → aw_Met l K MX12_goesPact (d + 1) [.inr (.inr 49), .inl x1, .inl x2] w (some (.inl y), v) := by
  intro x1 x2 w y v h
  unfold m_goesPact at h
  refine aw_enter rfl (Nat.le_of_ble_eq_true rfl) ?_
  show aw_AW l K MX12_goesPact (d + 1) 0 [(0, .inr (.inr 49)), (1, .inl x1), (2, .inl x2)] [] w (some (.inl y), v)
  refine aw_aload_n (pc := 0) (q := 0) dX12_goesPact_0 rfl ?_
  refine aw_iload_n (pc := 1) (q := 1) dX12_goesPact_1 rfl ?_
  refine aw_iload_n (pc := 2) (q := 2) dX12_goesPact_2 rfl ?_
  obtain ⟨r1, w1, h1, h⟩ := aw_b2s h
  refine aw_callV (pc := 3) (as := [.inl x1, .inl x2]) (st := []) (st' := [.inl r1]) dX12_goesPact_3 cv_RX12_369 (by decide) rfl rfl rfl rfl (Nat.le_of_ble_eq_true rfl) (w_m_isPact N d (by omega) _ _ _ _ _ h1) rfl ?_
  refine aw_if_eq (pc := 6) (tgt := 17) dX12_goesPact_6 (by decide) (fun hc => ?_) (fun hc => ?_)
  · rw [if_pos hc] at h
    exact aw_sel [] rfl (w_m_goesPact_17 N d hd  _ _ _ h)
  · rw [if_neg hc] at h
    refine aw_iload_n (pc := 9) (q := 2) dX12_goesPact_9 rfl ?_
    obtain ⟨r2, w2, h2, h⟩ := aw_b2s h
    refine aw_callS (pc := 10) (as := [.inl x2]) (st := []) (st' := [.inl r2]) dX12_goesPact_10 cs_RX12_335 rfl rfl (Nat.le_of_ble_eq_true rfl) (w_j_Int_bitCount N d (by omega) _ _ _ _ h2) rfl ?_
    refine aw_iconst (pc := 13) dX12_goesPact_13 ⟨by decide, by decide⟩ ?_
    refine aw_icmp_le (pc := 14) (tgt := 19) dX12_goesPact_14 (by decide) (fun hc => ?_) (fun hc => ?_)
    · rw [if_pos hc] at h
      refine aw_aload_n (pc := 19) (q := 0) dX12_goesPact_19 rfl ?_
      refine aw_iconst (pc := 20) dX12_goesPact_20 ⟨by decide, by decide⟩ ?_
      refine aw_puti (pc := 21) dX12_goesPact_21 fp_RX12_372 (by decide) rfl rfl ?_
      refine aw_aload_n (pc := 24) (q := 0) dX12_goesPact_24 rfl ?_
      refine aw_iload_n (pc := 25) (q := 2) dX12_goesPact_25 rfl ?_
      refine aw_iconst (pc := 26) dX12_goesPact_26 ⟨by decide, by decide⟩ ?_
      obtain ⟨w3, h3, h⟩ := aw_b1s h
      refine aw_callV (pc := 27) (as := [.inl x2, .inl 0]) (st := []) (st' := []) dX12_goesPact_27 cv_RX12_381 (by decide) rfl rfl rfl rfl (Nat.le_of_ble_eq_true rfl) (w_m_goPact N d (by omega) _ _ _ _ h3) rfl ?_
      refine aw_iconst (pc := 30) dX12_goesPact_30 ⟨by decide, by decide⟩ ?_
      cases h
      exact aw_zret (pc := 31) rfl (by decide) dX12_goesPact_31
    · rw [if_neg hc] at h
      exact aw_sel [] rfl (w_m_goesPact_17 N d hd  _ _ _ h)
theorem w_m_goesPact {l : Launch} {K : aw_K} (N d : Nat) (hd : 64 ≤ d) : ∀ (x1 x2 : Int) (w : aw_W) (y : Int) (v : aw_W), m_goesPact N x1 x2 w = some (y, v) → aw_Met l K MX12_goesPact (d) [.inr (.inr 49), .inl x1, .inl x2] w (some (.inl y), v) := by
  obtain ⟨e, rfl⟩ : ∃ e, d = e + 1 := ⟨d - 1, by omega⟩
  exact w_m_goesPact_d N e (by omega)
theorem dX12_together_0 : decode cX12_together 0 = .ok (.aload_n 0, 1) := by decide +kernel
theorem dX12_together_1 : decode cX12_together 1 = .ok (.iconst 0, 1) := by decide +kernel
theorem dX12_together_2 : decode cX12_together 2 = .ok (.putfield 99, 3) := by decide +kernel
theorem dX12_together_5 : decode cX12_together 5 = .ok (.iload_n 3, 1) := by decide +kernel
theorem dX12_together_6 : decode cX12_together 6 = .ok (.i2l, 1) := by decide +kernel
theorem dX12_together_7 : decode cX12_together 7 = .ok (.lconst 0, 1) := by decide +kernel
theorem dX12_together_8 : decode cX12_together 8 = .ok (.lconst 1, 1) := by decide +kernel
theorem dX12_together_9 : decode cX12_together 9 = .ok (.invokestatic 227, 3) := by decide +kernel
theorem dX12_together_12 : decode cX12_together 12 = .ok (.ifCond .eq 12, 3) := by decide +kernel
theorem dX12_together_15 : decode cX12_together 15 = .ok (.aload_n 0, 1) := by decide +kernel
theorem dX12_together_16 : decode cX12_together 16 = .ok (.iload_n 1, 1) := by decide +kernel
theorem dX12_together_17 : decode cX12_together 17 = .ok (.iload_n 2, 1) := by decide +kernel
theorem dX12_together_18 : decode cX12_together 18 = .ok (.invokevirtual 384, 3) := by decide +kernel
theorem dX12_together_21 : decode cX12_together 21 = .ok (.ifCond .ne 7, 3) := by decide +kernel
theorem dX12_together_24 : decode cX12_together 24 = .ok (.ldc_w 315, 3) := by decide +kernel
theorem dX12_together_27 : decode cX12_together 27 = .ok (.ireturn, 1) := by decide +kernel
theorem dX12_together_28 : decode cX12_together 28 = .ok (.iload_n 3, 1) := by decide +kernel
theorem dX12_together_29 : decode cX12_together 29 = .ok (.ifCond .ne 10, 3) := by decide +kernel
theorem dX12_together_32 : decode cX12_together 32 = .ok (.aload_n 0, 1) := by decide +kernel
theorem dX12_together_33 : decode cX12_together 33 = .ok (.getfield 375, 3) := by decide +kernel
theorem dX12_together_36 : decode cX12_together 36 = .ok (.goto 7, 3) := by decide +kernel
theorem dX12_together_39 : decode cX12_together 39 = .ok (.aload_n 0, 1) := by decide +kernel
theorem dX12_together_40 : decode cX12_together 40 = .ok (.getfield 372, 3) := by decide +kernel
theorem dX12_together_43 : decode cX12_together 43 = .ok (.ireturn, 1) := by decide +kernel
def m_together_24 (N : Nat) (w : aw_W) : Option (Int × aw_W) :=
  some ((-1000000), w)
theorem w_m_together_24 {l : Launch} {K : aw_K} (N d : Nat) (hd : 64 ≤ d) : ∀ (w : aw_W) (y : Int) (v : aw_W), m_together_24 N w = some (y, v) → aw_AW l K MX12_together (d + 1) 24 [] [] w (some (.inl y), v) := by
  intro w y v h
  unfold m_together_24 at h
  refine aw_ldcw (pc := 24) (x := (-1000000)) dX12_together_24 cn_RX12_315 ⟨by decide, by decide⟩ ?_
  cases h
  exact aw_iret (pc := 27) rfl dX12_together_27
def m_together_43 (N : Nat) (s0 : Int) (w : aw_W) : Option (Int × aw_W) :=
  some (s0, w)
theorem w_m_together_43 {l : Launch} {K : aw_K} (N d : Nat) (hd : 64 ≤ d) : ∀ (s0 : Int) (w : aw_W) (y : Int) (v : aw_W), m_together_43 N s0 w = some (y, v) → aw_AW l K MX12_together (d + 1) 43 [] [.inl s0] w (some (.inl y), v) := by
  intro s0 w y v h
  unfold m_together_43 at h
  cases h
  exact aw_iret (pc := 43) rfl dX12_together_43
def m_together (N : Nat) (x1 x2 x3 : Int) (w : aw_W) : Option (Int × aw_W) :=
  aw_b2 (m_isIn N x3 0 1 (aw_up w 49 0 0)) fun r1 w1 =>
    if r1 = 0 then
      m_together_24 N w1
    else
      aw_b2 (m_goesPact N x1 x2 w1) fun r2 w2 =>
        if r2 = 0 then
          m_together_24 N w2
        else
          if x3 = 0 then
            m_together_43 N (w2 49 36) w2
          else
            m_together_43 N (w2 49 37) w2
theorem w_m_together_d {l : Launch} {K : aw_K} (N d : Nat) (hd : 64 ≤ d) : ∀ (x1 x2 x3 : Int) (w : aw_W) (y : Int) (v : aw_W), m_together N x1 x2 x3 w = some (y, v) → aw_Met l K MX12_together (d + 1) [.inr (.inr 49), .inl x1, .inl x2, .inl x3] w (some (.inl y), v) := by
  intro x1 x2 x3 w y v h
  unfold m_together at h
  refine aw_enter rfl (Nat.le_of_ble_eq_true rfl) ?_
  show aw_AW l K MX12_together (d + 1) 0 [(0, .inr (.inr 49)), (1, .inl x1), (2, .inl x2), (3, .inl x3)] [] w (some (.inl y), v)
  refine aw_aload_n (pc := 0) (q := 0) dX12_together_0 rfl ?_
  refine aw_iconst (pc := 1) dX12_together_1 ⟨by decide, by decide⟩ ?_
  refine aw_puti (pc := 2) dX12_together_2 fp_RX12_99 (by decide) rfl rfl ?_
  refine aw_iload_n (pc := 5) (q := 3) dX12_together_5 rfl ?_
  refine aw_i2l (pc := 6) dX12_together_6 ?_
  refine aw_lconst (pc := 7) (x := 0) dX12_together_7 (by decide) ⟨by decide, by decide⟩ ?_
  refine aw_lconst (pc := 8) (x := 1) dX12_together_8 (by decide) ⟨by decide, by decide⟩ ?_
  obtain ⟨r1, w1, h1, h⟩ := aw_b2s h
  refine aw_callS (pc := 9) (as := [.inr (.inl x3), .inr (.inl 0), .inr (.inl 1)]) (st := []) (st' := [.inl r1]) dX12_together_9 cs_RX12_227 rfl rfl (Nat.le_of_ble_eq_true rfl) (w_m_isIn N d (by omega) _ _ _ _ _ _ h1) rfl ?_
  refine aw_if_eq (pc := 12) (tgt := 24) dX12_together_12 (by decide) (fun hc => ?_) (fun hc => ?_)
  · rw [if_pos hc] at h
    exact aw_sel [] rfl (w_m_together_24 N d hd  _ _ _ h)
  · rw [if_neg hc] at h
    refine aw_aload_n (pc := 15) (q := 0) dX12_together_15 rfl ?_
    refine aw_iload_n (pc := 16) (q := 1) dX12_together_16 rfl ?_
    refine aw_iload_n (pc := 17) (q := 2) dX12_together_17 rfl ?_
    obtain ⟨r2, w2, h2, h⟩ := aw_b2s h
    refine aw_callV (pc := 18) (as := [.inl x1, .inl x2]) (st := []) (st' := [.inl r2]) dX12_together_18 cv_RX12_384 (by decide) rfl rfl rfl rfl (Nat.le_of_ble_eq_true rfl) (w_m_goesPact N d (by omega) _ _ _ _ _ h2) rfl ?_
    refine aw_if_ne (pc := 21) (tgt := 28) dX12_together_21 (by decide) (fun hc => ?_) (fun hc => ?_)
    · rw [if_neg hc] at h
      refine aw_iload_n (pc := 28) (q := 3) dX12_together_28 rfl ?_
      refine aw_if_ne (pc := 29) (tgt := 39) dX12_together_29 (by decide) (fun hc => ?_) (fun hc => ?_)
      · rw [if_neg hc] at h
        refine aw_aload_n (pc := 39) (q := 0) dX12_together_39 rfl ?_
        refine aw_getf (pc := 40) (v := .inl (w2 49 37)) dX12_together_40 fl_RX12_372 (by decide) rfl rfl rfl ?_
        exact aw_sel [] rfl (w_m_together_43 N d hd  _ _ _ _ h)
      · rw [if_pos hc] at h
        refine aw_aload_n (pc := 32) (q := 0) dX12_together_32 rfl ?_
        refine aw_getf (pc := 33) (v := .inl (w2 49 36)) dX12_together_33 fl_RX12_375 (by decide) rfl rfl rfl ?_
        refine aw_goto (pc := 36) (tgt := 43) dX12_together_36 (by decide) ?_
        exact aw_sel [] rfl (w_m_together_43 N d hd  _ _ _ _ h)
    · rw [if_pos hc] at h
      exact aw_sel [] rfl (w_m_together_24 N d hd  _ _ _ h)
theorem w_m_together {l : Launch} {K : aw_K} (N d : Nat) (hd : 65 ≤ d) : ∀ (x1 x2 x3 : Int) (w : aw_W) (y : Int) (v : aw_W), m_together N x1 x2 x3 w = some (y, v) → aw_Met l K MX12_together (d) [.inr (.inr 49), .inl x1, .inl x2, .inl x3] w (some (.inl y), v) := by
  obtain ⟨e, rfl⟩ : ∃ e, d = e + 1 := ⟨d - 1, by omega⟩
  exact w_m_together_d N e (by omega)
theorem dX12_treason_0 : decode cX12_treason 0 = .ok (.aload_n 0, 1) := by decide +kernel
theorem dX12_treason_1 : decode cX12_treason 1 = .ok (.iconst 0, 1) := by decide +kernel
theorem dX12_treason_2 : decode cX12_treason 2 = .ok (.putfield 99, 3) := by decide +kernel
theorem dX12_treason_5 : decode cX12_treason 5 = .ok (.aload_n 0, 1) := by decide +kernel
theorem dX12_treason_6 : decode cX12_treason 6 = .ok (.iload_n 1, 1) := by decide +kernel
theorem dX12_treason_7 : decode cX12_treason 7 = .ok (.iload_n 2, 1) := by decide +kernel
theorem dX12_treason_8 : decode cX12_treason 8 = .ok (.invokevirtual 384, 3) := by decide +kernel
theorem dX12_treason_11 : decode cX12_treason 11 = .ok (.ifCond .ne 7, 3) := by decide +kernel
theorem dX12_treason_14 : decode cX12_treason 14 = .ok (.ldc_w 315, 3) := by decide +kernel
theorem dX12_treason_17 : decode cX12_treason 17 = .ok (.ireturn, 1) := by decide +kernel
theorem dX12_treason_18 : decode cX12_treason 18 = .ok (.aload_n 0, 1) := by decide +kernel
theorem dX12_treason_19 : decode cX12_treason 19 = .ok (.aload_n 0, 1) := by decide +kernel
theorem dX12_treason_20 : decode cX12_treason 20 = .ok (.getfield 372, 3) := by decide +kernel
theorem dX12_treason_23 : decode cX12_treason 23 = .ok (.invokevirtual 342, 3) := by decide +kernel
theorem dX12_treason_26 : decode cX12_treason 26 = .ok (.istore_n 3, 1) := by decide +kernel
theorem dX12_treason_27 : decode cX12_treason 27 = .ok (.iconst (-1), 1) := by decide +kernel
theorem dX12_treason_28 : decode cX12_treason 28 = .ok (.istore 4, 2) := by decide +kernel
theorem dX12_treason_30 : decode cX12_treason 30 = .ok (.iconst 0, 1) := by decide +kernel
theorem dX12_treason_31 : decode cX12_treason 31 = .ok (.istore 5, 2) := by decide +kernel
theorem dX12_treason_33 : decode cX12_treason 33 = .ok (.iconst 0, 1) := by decide +kernel
theorem dX12_treason_34 : decode cX12_treason 34 = .ok (.istore 6, 2) := by decide +kernel
theorem dX12_treason_36 : decode cX12_treason 36 = .ok (.iload 6, 2) := by decide +kernel
theorem dX12_treason_38 : decode cX12_treason 38 = .ok (.aload_n 0, 1) := by decide +kernel
theorem dX12_treason_39 : decode cX12_treason 39 = .ok (.getfield 270, 3) := by decide +kernel
theorem dX12_treason_42 : decode cX12_treason 42 = .ok (.if_icmp .ge 49, 3) := by decide +kernel
theorem dX12_treason_45 : decode cX12_treason 45 = .ok (.iload_n 2, 1) := by decide +kernel
theorem dX12_treason_46 : decode cX12_treason 46 = .ok (.iload 6, 2) := by decide +kernel
theorem dX12_treason_48 : decode cX12_treason 48 = .ok (.invokestatic 248, 3) := by decide +kernel
theorem dX12_treason_51 : decode cX12_treason 51 = .ok (.ifCond .ne 6, 3) := by decide +kernel
theorem dX12_treason_54 : decode cX12_treason 54 = .ok (.goto 31, 3) := by decide +kernel
theorem dX12_treason_57 : decode cX12_treason 57 = .ok (.aload_n 0, 1) := by decide +kernel
theorem dX12_treason_58 : decode cX12_treason 58 = .ok (.iload 6, 2) := by decide +kernel
theorem dX12_treason_60 : decode cX12_treason 60 = .ok (.invokevirtual 357, 3) := by decide +kernel
theorem dX12_treason_63 : decode cX12_treason 63 = .ok (.aload_n 0, 1) := by decide +kernel
theorem dX12_treason_64 : decode cX12_treason 64 = .ok (.getfield 354, 3) := by decide +kernel
theorem dX12_treason_67 : decode cX12_treason 67 = .ok (.iload 5, 2) := by decide +kernel
theorem dX12_treason_69 : decode cX12_treason 69 = .ok (.if_icmp .gt 6, 3) := by decide +kernel
theorem dX12_treason_72 : decode cX12_treason 72 = .ok (.goto 13, 3) := by decide +kernel
theorem dX12_treason_75 : decode cX12_treason 75 = .ok (.iload 6, 2) := by decide +kernel
theorem dX12_treason_77 : decode cX12_treason 77 = .ok (.istore 4, 2) := by decide +kernel
theorem dX12_treason_79 : decode cX12_treason 79 = .ok (.aload_n 0, 1) := by decide +kernel
theorem dX12_treason_80 : decode cX12_treason 80 = .ok (.getfield 354, 3) := by decide +kernel
theorem dX12_treason_83 : decode cX12_treason 83 = .ok (.istore 5, 2) := by decide +kernel
theorem dX12_treason_85 : decode cX12_treason 85 = .ok (.iinc 6 1, 3) := by decide +kernel
theorem dX12_treason_88 : decode cX12_treason 88 = .ok (.goto (-52), 3) := by decide +kernel
theorem dX12_treason_91 : decode cX12_treason 91 = .ok (.iload 4, 2) := by decide +kernel
theorem dX12_treason_93 : decode cX12_treason 93 = .ok (.ireturn, 1) := by decide +kernel
def m_treason_91 (N : Nat) (x4 : Int) (w : aw_W) : Option (Int × aw_W) :=
  some (x4, w)
theorem w_m_treason_91 {l : Launch} {K : aw_K} (N d : Nat) (hd : 64 ≤ d) : ∀ (x4 : Int) (w : aw_W) (y : Int) (v : aw_W), m_treason_91 N x4 w = some (y, v) → aw_AW l K MX12_treason (d + 1) 91 [(4, .inl x4)] [] w (some (.inl y), v) := by
  intro x4 w y v h
  unfold m_treason_91 at h
  refine aw_iload (pc := 91) (q := 0) dX12_treason_91 rfl ?_
  cases h
  exact aw_iret (pc := 93) rfl dX12_treason_93
def m_treason_85 (N : Nat) (k36 : Int → Int → Int → Int → aw_W → Option (Int × aw_W)) (x2 x4 x5 x6 : Int) (w : aw_W) : Option (Int × aw_W) :=
  k36 x2 x4 x5 (aw_w (x6 + 1)) w
theorem w_m_treason_85 {l : Launch} {K : aw_K} (N d : Nat) (hd : 64 ≤ d) (k36 : Int → Int → Int → Int → aw_W → Option (Int × aw_W)) (hk36 : ∀ (x2 x4 x5 x6 : Int) (w : aw_W) (y : Int) (v : aw_W), k36 x2 x4 x5 x6 w = some (y, v) → aw_AW l K MX12_treason (d + 1) 36 [(0, .inr (.inr 49)), (2, .inl x2), (4, .inl x4), (5, .inl x5), (6, .inl x6)] [] w (some (.inl y), v)) : ∀ (x2 x4 x5 x6 : Int) (w : aw_W) (y : Int) (v : aw_W), m_treason_85 N k36 x2 x4 x5 x6 w = some (y, v) → aw_AW l K MX12_treason (d + 1) 85 [(0, .inr (.inr 49)), (2, .inl x2), (4, .inl x4), (5, .inl x5), (6, .inl x6)] [] w (some (.inl y), v) := by
  intro x2 x4 x5 x6 w y v h
  unfold m_treason_85 at h
  refine aw_iinc (pc := 85) (q := 4) (ls' := [(6, .inl (aw_w (x6 + 1))), (0, .inr (.inr 49)), (2, .inl x2), (4, .inl x4), (5, .inl x5)]) dX12_treason_85 rfl (by decide) rfl ?_
  refine aw_goto (pc := 88) (tgt := 36) dX12_treason_88 (by decide) ?_
  exact aw_sel [1, 2, 3, 4, 0] rfl (hk36 _ _ _ _ _ _ _ h)
def m_treason_36 (N : Nat) : Nat → Int → Int → Int → Int → aw_W → Option (Int × aw_W)
  | 0, _, _, _, _, _ => none
  | n + 1, x2, x4, x5, x6, w =>
    if (w 49 22) ≤ x6 then
      m_treason_91 N x4 w
    else
      aw_b2 (m_has N x2 x6 w) fun r1 w1 =>
        if r1 = 0 then
          m_treason_85 N (m_treason_36 N n) x2 x4 x5 x6 w1
        else
          aw_b1 (m_layBest N x6 w1) fun w2 =>
            if x5 < (w2 49 35) then
              m_treason_85 N (m_treason_36 N n) x2 x6 (w2 49 35) x6 w2
            else
              m_treason_85 N (m_treason_36 N n) x2 x4 x5 x6 w2
theorem w_m_treason_36 {l : Launch} {K : aw_K} (N d : Nat) (hd : 64 ≤ d) : ∀ (n : Nat) (x2 x4 x5 x6 : Int) (w : aw_W) (y : Int) (v : aw_W), m_treason_36 N n x2 x4 x5 x6 w = some (y, v) → aw_AW l K MX12_treason (d + 1) 36 [(0, .inr (.inr 49)), (2, .inl x2), (4, .inl x4), (5, .inl x5), (6, .inl x6)] [] w (some (.inl y), v) := by
  intro n
  induction n with
  | zero => intro x2 x4 x5 x6 w y v h; rw [m_treason_36] at h; cases h
  | succ n ih =>
    intro x2 x4 x5 x6 w y v h
    rw [m_treason_36] at h
    refine aw_iload (pc := 36) (q := 4) dX12_treason_36 rfl ?_
    refine aw_aload_n (pc := 38) (q := 0) dX12_treason_38 rfl ?_
    refine aw_getf (pc := 39) (v := .inl (w 49 22)) dX12_treason_39 fl_RX12_270 (by decide) rfl rfl rfl ?_
    refine aw_icmp_ge (pc := 42) (tgt := 91) dX12_treason_42 (by decide) (fun hc => ?_) (fun hc => ?_)
    · rw [if_pos hc] at h
      exact aw_sel [2] rfl (w_m_treason_91 N d hd  _ _ _ _ h)
    · rw [if_neg hc] at h
      refine aw_iload_n (pc := 45) (q := 1) dX12_treason_45 rfl ?_
      refine aw_iload (pc := 46) (q := 4) dX12_treason_46 rfl ?_
      obtain ⟨r1, w1, h1, h⟩ := aw_b2s h
      refine aw_callS (pc := 48) (as := [.inl x2, .inl x6]) (st := []) (st' := [.inl r1]) dX12_treason_48 cs_RX12_248 rfl rfl (Nat.le_of_ble_eq_true rfl) (w_m_has N d (by omega) _ _ _ _ _ h1) rfl ?_
      refine aw_if_ne (pc := 51) (tgt := 57) dX12_treason_51 (by decide) (fun hc => ?_) (fun hc => ?_)
      · rw [if_neg hc] at h
        refine aw_aload_n (pc := 57) (q := 0) dX12_treason_57 rfl ?_
        refine aw_iload (pc := 58) (q := 4) dX12_treason_58 rfl ?_
        obtain ⟨w2, h2, h⟩ := aw_b1s h
        refine aw_callV (pc := 60) (as := [.inl x6]) (st := []) (st' := []) dX12_treason_60 cv_RX12_357 (by decide) rfl rfl rfl rfl (Nat.le_of_ble_eq_true rfl) (w_m_layBest N d (by omega) _ _ _ h2) rfl ?_
        refine aw_aload_n (pc := 63) (q := 0) dX12_treason_63 rfl ?_
        refine aw_getf (pc := 64) (v := .inl (w2 49 35)) dX12_treason_64 fl_RX12_354 (by decide) rfl rfl rfl ?_
        refine aw_iload (pc := 67) (q := 3) dX12_treason_67 rfl ?_
        refine aw_icmp_gt (pc := 69) (tgt := 75) dX12_treason_69 (by decide) (fun hc => ?_) (fun hc => ?_)
        · rw [if_pos hc] at h
          refine aw_iload (pc := 75) (q := 4) dX12_treason_75 rfl ?_
          refine aw_istore (pc := 77) (ls' := [(4, .inl x6), (0, .inr (.inr 49)), (2, .inl x2), (5, .inl x5), (6, .inl x6)]) dX12_treason_77 (by decide) rfl ?_
          refine aw_aload_n (pc := 79) (q := 1) dX12_treason_79 rfl ?_
          refine aw_getf (pc := 80) (v := .inl (w2 49 35)) dX12_treason_80 fl_RX12_354 (by decide) rfl rfl rfl ?_
          refine aw_istore (pc := 83) (ls' := [(5, .inl (w2 49 35)), (4, .inl x6), (0, .inr (.inr 49)), (2, .inl x2), (6, .inl x6)]) dX12_treason_83 (by decide) rfl ?_
          exact aw_sel [2, 3, 1, 0, 4] rfl (w_m_treason_85 N d hd  _ ih _ _ _ _ _ _ _ h)
        · rw [if_neg hc] at h
          refine aw_goto (pc := 72) (tgt := 85) dX12_treason_72 (by decide) ?_
          exact aw_sel [0, 1, 2, 3, 4] rfl (w_m_treason_85 N d hd  _ ih _ _ _ _ _ _ _ h)
      · rw [if_pos hc] at h
        refine aw_goto (pc := 54) (tgt := 85) dX12_treason_54 (by decide) ?_
        exact aw_sel [0, 1, 2, 3, 4] rfl (w_m_treason_85 N d hd  _ ih _ _ _ _ _ _ _ h)
def m_treason (N : Nat) (x1 x2 : Int) (w : aw_W) : Option (Int × aw_W) :=
  aw_b2 (m_goesPact N x1 x2 (aw_up w 49 0 0)) fun r1 w1 =>
    if r1 = 0 then
      some ((-1000000), w1)
    else
      aw_b2 (m_lay N (w1 49 37) w1) fun r2 w2 =>
        m_treason_36 N N x2 (-1) 0 0 w2
theorem w_m_treason_d {l : Launch} {K : aw_K} (N d : Nat) (hd : 64 ≤ d) : ∀ (x1 x2 : Int) (w : aw_W) (y : Int) (v : aw_W), m_treason N x1 x2 w = some (y, v) → aw_Met l K MX12_treason (d + 1) [.inr (.inr 49), .inl x1, .inl x2] w (some (.inl y), v) := by
  intro x1 x2 w y v h
  unfold m_treason at h
  refine aw_enter rfl (Nat.le_of_ble_eq_true rfl) ?_
  show aw_AW l K MX12_treason (d + 1) 0 [(0, .inr (.inr 49)), (1, .inl x1), (2, .inl x2)] [] w (some (.inl y), v)
  refine aw_aload_n (pc := 0) (q := 0) dX12_treason_0 rfl ?_
  refine aw_iconst (pc := 1) dX12_treason_1 ⟨by decide, by decide⟩ ?_
  refine aw_puti (pc := 2) dX12_treason_2 fp_RX12_99 (by decide) rfl rfl ?_
  refine aw_aload_n (pc := 5) (q := 0) dX12_treason_5 rfl ?_
  refine aw_iload_n (pc := 6) (q := 1) dX12_treason_6 rfl ?_
  refine aw_iload_n (pc := 7) (q := 2) dX12_treason_7 rfl ?_
  obtain ⟨r1, w1, h1, h⟩ := aw_b2s h
  refine aw_callV (pc := 8) (as := [.inl x1, .inl x2]) (st := []) (st' := [.inl r1]) dX12_treason_8 cv_RX12_384 (by decide) rfl rfl rfl rfl (Nat.le_of_ble_eq_true rfl) (w_m_goesPact N d (by omega) _ _ _ _ _ h1) rfl ?_
  refine aw_if_ne (pc := 11) (tgt := 18) dX12_treason_11 (by decide) (fun hc => ?_) (fun hc => ?_)
  · rw [if_neg hc] at h
    refine aw_aload_n (pc := 18) (q := 0) dX12_treason_18 rfl ?_
    refine aw_aload_n (pc := 19) (q := 0) dX12_treason_19 rfl ?_
    refine aw_getf (pc := 20) (v := .inl (w1 49 37)) dX12_treason_20 fl_RX12_372 (by decide) rfl rfl rfl ?_
    obtain ⟨r2, w2, h2, h⟩ := aw_b2s h
    refine aw_callV (pc := 23) (as := [.inl (w1 49 37)]) (st := []) (st' := [.inl r2]) dX12_treason_23 cv_RX12_342 (by decide) rfl rfl rfl rfl (Nat.le_of_ble_eq_true rfl) (w_m_lay N d (by omega) _ _ _ _ h2) rfl ?_
    refine aw_istore_n (pc := 26) (ls' := [(3, .inl r2), (0, .inr (.inr 49)), (1, .inl x1), (2, .inl x2)]) dX12_treason_26 (by decide) rfl ?_
    refine aw_iconst (pc := 27) dX12_treason_27 ⟨by decide, by decide⟩ ?_
    refine aw_istore (pc := 28) (ls' := [(4, .inl (-1)), (3, .inl r2), (0, .inr (.inr 49)), (1, .inl x1), (2, .inl x2)]) dX12_treason_28 (by decide) rfl ?_
    refine aw_iconst (pc := 30) dX12_treason_30 ⟨by decide, by decide⟩ ?_
    refine aw_istore (pc := 31) (ls' := [(5, .inl 0), (4, .inl (-1)), (3, .inl r2), (0, .inr (.inr 49)), (1, .inl x1), (2, .inl x2)]) dX12_treason_31 (by decide) rfl ?_
    refine aw_iconst (pc := 33) dX12_treason_33 ⟨by decide, by decide⟩ ?_
    refine aw_istore (pc := 34) (ls' := [(6, .inl 0), (5, .inl 0), (4, .inl (-1)), (3, .inl r2), (0, .inr (.inr 49)), (1, .inl x1), (2, .inl x2)]) dX12_treason_34 (by decide) rfl ?_
    exact aw_sel [4, 6, 2, 1, 0] rfl (w_m_treason_36 N d hd  N _ _ _ _ _ _ _ h)
  · rw [if_pos hc] at h
    refine aw_ldcw (pc := 14) (x := (-1000000)) dX12_treason_14 cn_RX12_315 ⟨by decide, by decide⟩ ?_
    cases h
    exact aw_iret (pc := 17) rfl dX12_treason_17
theorem w_m_treason {l : Launch} {K : aw_K} (N d : Nat) (hd : 65 ≤ d) : ∀ (x1 x2 : Int) (w : aw_W) (y : Int) (v : aw_W), m_treason N x1 x2 w = some (y, v) → aw_Met l K MX12_treason (d) [.inr (.inr 49), .inl x1, .inl x2] w (some (.inl y), v) := by
  obtain ⟨e, rfl⟩ : ∃ e, d = e + 1 := ⟨d - 1, by omega⟩
  exact w_m_treason_d N e (by omega)
theorem dX12_undo_0 : decode cX12_undo 0 = .ok (.aload_n 0, 1) := by decide +kernel
theorem dX12_undo_1 : decode cX12_undo 1 = .ok (.iconst 0, 1) := by decide +kernel
theorem dX12_undo_2 : decode cX12_undo 2 = .ok (.putfield 99, 3) := by decide +kernel
theorem dX12_undo_5 : decode cX12_undo 5 = .ok (.aload_n 0, 1) := by decide +kernel
theorem dX12_undo_6 : decode cX12_undo 6 = .ok (.getfield 273, 3) := by decide +kernel
theorem dX12_undo_9 : decode cX12_undo 9 = .ok (.ifCond .ne 5, 3) := by decide +kernel
theorem dX12_undo_12 : decode cX12_undo 12 = .ok (.iconst (-1), 1) := by decide +kernel
theorem dX12_undo_13 : decode cX12_undo 13 = .ok (.ireturn, 1) := by decide +kernel
theorem dX12_undo_14 : decode cX12_undo 14 = .ok (.aload_n 0, 1) := by decide +kernel
theorem dX12_undo_15 : decode cX12_undo 15 = .ok (.dup, 1) := by decide +kernel
theorem dX12_undo_16 : decode cX12_undo 16 = .ok (.getfield 273, 3) := by decide +kernel
theorem dX12_undo_19 : decode cX12_undo 19 = .ok (.iconst 1, 1) := by decide +kernel
theorem dX12_undo_20 : decode cX12_undo 20 = .ok (.isub, 1) := by decide +kernel
theorem dX12_undo_21 : decode cX12_undo 21 = .ok (.putfield 273, 3) := by decide +kernel
theorem dX12_undo_24 : decode cX12_undo 24 = .ok (.aload_n 0, 1) := by decide +kernel
theorem dX12_undo_25 : decode cX12_undo 25 = .ok (.getfield 273, 3) := by decide +kernel
theorem dX12_undo_28 : decode cX12_undo 28 = .ok (.ireturn, 1) := by decide +kernel
def m_undo (N : Nat) (w : aw_W) : Option (Int × aw_W) :=
  if (w 49 43) = 0 then
    some ((-1), (aw_up w 49 0 0))
  else
    some (aw_w ((w 49 43) - 1), (aw_up (aw_up w 49 0 0) 49 43 (aw_w ((w 49 43) - 1))))
theorem w_m_undo {l : Launch} {K : aw_K} (N d : Nat) (hd : 0 ≤ d) : ∀ (w : aw_W) (y : Int) (v : aw_W), m_undo N w = some (y, v) → aw_Met l K MX12_undo (d) [.inr (.inr 49)] w (some (.inl y), v) := by
  intro w y v h
  unfold m_undo at h
  refine aw_enter rfl (Nat.le_of_ble_eq_true rfl) ?_
  show aw_AW l K MX12_undo (d) 0 [(0, .inr (.inr 49))] [] w (some (.inl y), v)
  refine aw_aload_n (pc := 0) (q := 0) dX12_undo_0 rfl ?_
  refine aw_iconst (pc := 1) dX12_undo_1 ⟨by decide, by decide⟩ ?_
  refine aw_puti (pc := 2) dX12_undo_2 fp_RX12_99 (by decide) rfl rfl ?_
  refine aw_aload_n (pc := 5) (q := 0) dX12_undo_5 rfl ?_
  refine aw_getf (pc := 6) (v := .inl (w 49 43)) dX12_undo_6 fl_RX12_273 (by decide) rfl rfl rfl ?_
  refine aw_if_ne (pc := 9) (tgt := 14) dX12_undo_9 (by decide) (fun hc => ?_) (fun hc => ?_)
  · rw [if_neg hc] at h
    refine aw_aload_n (pc := 14) (q := 0) dX12_undo_14 rfl ?_
    refine aw_dup (pc := 15) dX12_undo_15 rfl ?_
    refine aw_getf (pc := 16) (v := .inl (w 49 43)) dX12_undo_16 fl_RX12_273 (by decide) rfl rfl rfl ?_
    refine aw_iconst (pc := 19) dX12_undo_19 ⟨by decide, by decide⟩ ?_
    refine aw_isub (pc := 20) dX12_undo_20 ?_
    refine aw_puti (pc := 21) dX12_undo_21 fp_RX12_273 (by decide) rfl rfl ?_
    refine aw_aload_n (pc := 24) (q := 0) dX12_undo_24 rfl ?_
    refine aw_getf (pc := 25) (v := .inl (aw_w ((w 49 43) - 1))) dX12_undo_25 fl_RX12_273 (by decide) rfl rfl rfl ?_
    cases h
    exact aw_iret (pc := 28) rfl dX12_undo_28
  · rw [if_pos hc] at h
    refine aw_iconst (pc := 12) dX12_undo_12 ⟨by decide, by decide⟩ ?_
    cases h
    exact aw_iret (pc := 13) rfl dX12_undo_13
theorem dX12_voids_0 : decode cX12_voids 0 = .ok (.aload_n 0, 1) := by decide +kernel
theorem dX12_voids_1 : decode cX12_voids 1 = .ok (.iconst 0, 1) := by decide +kernel
theorem dX12_voids_2 : decode cX12_voids 2 = .ok (.putfield 99, 3) := by decide +kernel
theorem dX12_voids_5 : decode cX12_voids 5 = .ok (.aload_n 0, 1) := by decide +kernel
theorem dX12_voids_6 : decode cX12_voids 6 = .ok (.invokevirtual 360, 3) := by decide +kernel
theorem dX12_voids_9 : decode cX12_voids 9 = .ok (.ifCond .ne 5, 3) := by decide +kernel
theorem dX12_voids_12 : decode cX12_voids 12 = .ok (.iconst (-1), 1) := by decide +kernel
theorem dX12_voids_13 : decode cX12_voids 13 = .ok (.ireturn, 1) := by decide +kernel
theorem dX12_voids_14 : decode cX12_voids 14 = .ok (.iconst 0, 1) := by decide +kernel
theorem dX12_voids_15 : decode cX12_voids 15 = .ok (.istore_n 1, 1) := by decide +kernel
theorem dX12_voids_16 : decode cX12_voids 16 = .ok (.iconst 0, 1) := by decide +kernel
theorem dX12_voids_17 : decode cX12_voids 17 = .ok (.istore_n 2, 1) := by decide +kernel
theorem dX12_voids_18 : decode cX12_voids 18 = .ok (.iload_n 2, 1) := by decide +kernel
theorem dX12_voids_19 : decode cX12_voids 19 = .ok (.aload_n 0, 1) := by decide +kernel
theorem dX12_voids_20 : decode cX12_voids 20 = .ok (.invokevirtual 363, 3) := by decide +kernel
theorem dX12_voids_23 : decode cX12_voids 23 = .ok (.if_icmp .ge 40, 3) := by decide +kernel
theorem dX12_voids_26 : decode cX12_voids 26 = .ok (.aload_n 0, 1) := by decide +kernel
theorem dX12_voids_27 : decode cX12_voids 27 = .ok (.iload_n 2, 1) := by decide +kernel
theorem dX12_voids_28 : decode cX12_voids 28 = .ok (.invokevirtual 342, 3) := by decide +kernel
theorem dX12_voids_31 : decode cX12_voids 31 = .ok (.ifCond .ne 6, 3) := by decide +kernel
theorem dX12_voids_34 : decode cX12_voids 34 = .ok (.goto 23, 3) := by decide +kernel
theorem dX12_voids_37 : decode cX12_voids 37 = .ok (.aload_n 0, 1) := by decide +kernel
theorem dX12_voids_38 : decode cX12_voids 38 = .ok (.invokevirtual 326, 3) := by decide +kernel
theorem dX12_voids_41 : decode cX12_voids 41 = .ok (.iload_n 1, 1) := by decide +kernel
theorem dX12_voids_42 : decode cX12_voids 42 = .ok (.aload_n 0, 1) := by decide +kernel
theorem dX12_voids_43 : decode cX12_voids 43 = .ok (.invokevirtual 320, 3) := by decide +kernel
theorem dX12_voids_46 : decode cX12_voids 46 = .ok (.iconst (-1), 1) := by decide +kernel
theorem dX12_voids_47 : decode cX12_voids 47 = .ok (.if_icmp .ne 7, 3) := by decide +kernel
theorem dX12_voids_50 : decode cX12_voids 50 = .ok (.iconst 1, 1) := by decide +kernel
theorem dX12_voids_51 : decode cX12_voids 51 = .ok (.goto 4, 3) := by decide +kernel
theorem dX12_voids_54 : decode cX12_voids 54 = .ok (.iconst 0, 1) := by decide +kernel
theorem dX12_voids_55 : decode cX12_voids 55 = .ok (.iadd, 1) := by decide +kernel
theorem dX12_voids_56 : decode cX12_voids 56 = .ok (.istore_n 1, 1) := by decide +kernel
theorem dX12_voids_57 : decode cX12_voids 57 = .ok (.iinc 2 1, 3) := by decide +kernel
theorem dX12_voids_60 : decode cX12_voids 60 = .ok (.goto (-42), 3) := by decide +kernel
theorem dX12_voids_63 : decode cX12_voids 63 = .ok (.iload_n 1, 1) := by decide +kernel
theorem dX12_voids_64 : decode cX12_voids 64 = .ok (.ireturn, 1) := by decide +kernel
def m_voids_63 (N : Nat) (x1 : Int) (w : aw_W) : Option (Int × aw_W) :=
  some (x1, w)
theorem w_m_voids_63 {l : Launch} {K : aw_K} (N d : Nat) (hd : 2 ≤ d) : ∀ (x1 : Int) (w : aw_W) (y : Int) (v : aw_W), m_voids_63 N x1 w = some (y, v) → aw_AW l K MX12_voids (d + 1) 63 [(1, .inl x1)] [] w (some (.inl y), v) := by
  intro x1 w y v h
  unfold m_voids_63 at h
  refine aw_iload_n (pc := 63) (q := 0) dX12_voids_63 rfl ?_
  cases h
  exact aw_iret (pc := 64) rfl dX12_voids_64
def m_voids_57 (N : Nat) (k18 : Int → Int → aw_W → Option (Int × aw_W)) (x1 x2 : Int) (w : aw_W) : Option (Int × aw_W) :=
  k18 x1 (aw_w (x2 + 1)) w
theorem w_m_voids_57 {l : Launch} {K : aw_K} (N d : Nat) (hd : 2 ≤ d) (k18 : Int → Int → aw_W → Option (Int × aw_W)) (hk18 : ∀ (x1 x2 : Int) (w : aw_W) (y : Int) (v : aw_W), k18 x1 x2 w = some (y, v) → aw_AW l K MX12_voids (d + 1) 18 [(0, .inr (.inr 49)), (1, .inl x1), (2, .inl x2)] [] w (some (.inl y), v)) : ∀ (x1 x2 : Int) (w : aw_W) (y : Int) (v : aw_W), m_voids_57 N k18 x1 x2 w = some (y, v) → aw_AW l K MX12_voids (d + 1) 57 [(0, .inr (.inr 49)), (1, .inl x1), (2, .inl x2)] [] w (some (.inl y), v) := by
  intro x1 x2 w y v h
  unfold m_voids_57 at h
  refine aw_iinc (pc := 57) (q := 2) (ls' := [(2, .inl (aw_w (x2 + 1))), (0, .inr (.inr 49)), (1, .inl x1)]) dX12_voids_57 rfl (by decide) rfl ?_
  refine aw_goto (pc := 60) (tgt := 18) dX12_voids_60 (by decide) ?_
  exact aw_sel [1, 2, 0] rfl (hk18 _ _ _ _ _ h)
def m_voids_55 (N : Nat) (k18 : Int → Int → aw_W → Option (Int × aw_W)) (x2 s0 s1 : Int) (w : aw_W) : Option (Int × aw_W) :=
  m_voids_57 N k18 (aw_w (s1 + s0)) x2 w
theorem w_m_voids_55 {l : Launch} {K : aw_K} (N d : Nat) (hd : 2 ≤ d) (k18 : Int → Int → aw_W → Option (Int × aw_W)) (hk18 : ∀ (x1 x2 : Int) (w : aw_W) (y : Int) (v : aw_W), k18 x1 x2 w = some (y, v) → aw_AW l K MX12_voids (d + 1) 18 [(0, .inr (.inr 49)), (1, .inl x1), (2, .inl x2)] [] w (some (.inl y), v)) : ∀ (x2 s0 s1 : Int) (w : aw_W) (y : Int) (v : aw_W), m_voids_55 N k18 x2 s0 s1 w = some (y, v) → aw_AW l K MX12_voids (d + 1) 55 [(0, .inr (.inr 49)), (2, .inl x2)] [.inl s0, .inl s1] w (some (.inl y), v) := by
  intro x2 s0 s1 w y v h
  unfold m_voids_55 at h
  refine aw_iadd (pc := 55) dX12_voids_55 ?_
  refine aw_istore_n (pc := 56) (ls' := [(1, .inl (aw_w (s1 + s0))), (0, .inr (.inr 49)), (2, .inl x2)]) dX12_voids_56 (by decide) rfl ?_
  exact aw_sel [1, 0, 2] rfl (w_m_voids_57 N d hd  _ hk18 _ _ _ _ _ h)
def m_voids_18 (N : Nat) : Nat → Int → Int → aw_W → Option (Int × aw_W)
  | 0, _, _, _ => none
  | n + 1, x1, x2, w =>
    aw_b2 (m_rowMany N w) fun r1 w1 =>
      if r1 ≤ x2 then
        m_voids_63 N x1 w1
      else
        aw_b2 (m_lay N x2 w1) fun r2 w2 =>
          if r2 = 0 then
            m_voids_57 N (m_voids_18 N n) x1 x2 w2
          else
            aw_b1 (m_judge N w2) fun w3 =>
              aw_b2 (m_winner N w3) fun r4 w4 =>
                if r4 = (-1) then
                  m_voids_55 N (m_voids_18 N n) x2 1 x1 w4
                else
                  m_voids_55 N (m_voids_18 N n) x2 0 x1 w4
theorem w_m_voids_18 {l : Launch} {K : aw_K} (N d : Nat) (hd : 2 ≤ d) : ∀ (n : Nat) (x1 x2 : Int) (w : aw_W) (y : Int) (v : aw_W), m_voids_18 N n x1 x2 w = some (y, v) → aw_AW l K MX12_voids (d + 1) 18 [(0, .inr (.inr 49)), (1, .inl x1), (2, .inl x2)] [] w (some (.inl y), v) := by
  intro n
  induction n with
  | zero => intro x1 x2 w y v h; rw [m_voids_18] at h; cases h
  | succ n ih =>
    intro x1 x2 w y v h
    rw [m_voids_18] at h
    refine aw_iload_n (pc := 18) (q := 2) dX12_voids_18 rfl ?_
    refine aw_aload_n (pc := 19) (q := 0) dX12_voids_19 rfl ?_
    obtain ⟨r1, w1, h1, h⟩ := aw_b2s h
    refine aw_callV (pc := 20) (as := []) (st := [.inl x2]) (st' := [.inl r1, .inl x2]) dX12_voids_20 cv_RX12_363 (by decide) rfl rfl rfl rfl (Nat.le_of_ble_eq_true rfl) (w_m_rowMany N d (by omega) _ _ _ h1) rfl ?_
    refine aw_icmp_ge (pc := 23) (tgt := 63) dX12_voids_23 (by decide) (fun hc => ?_) (fun hc => ?_)
    · rw [if_pos hc] at h
      exact aw_sel [1] rfl (w_m_voids_63 N d hd  _ _ _ _ h)
    · rw [if_neg hc] at h
      refine aw_aload_n (pc := 26) (q := 0) dX12_voids_26 rfl ?_
      refine aw_iload_n (pc := 27) (q := 2) dX12_voids_27 rfl ?_
      obtain ⟨r2, w2, h2, h⟩ := aw_b2s h
      refine aw_callV (pc := 28) (as := [.inl x2]) (st := []) (st' := [.inl r2]) dX12_voids_28 cv_RX12_342 (by decide) rfl rfl rfl rfl (Nat.le_of_ble_eq_true rfl) (w_m_lay N d (by omega) _ _ _ _ h2) rfl ?_
      refine aw_if_ne (pc := 31) (tgt := 37) dX12_voids_31 (by decide) (fun hc => ?_) (fun hc => ?_)
      · rw [if_neg hc] at h
        refine aw_aload_n (pc := 37) (q := 0) dX12_voids_37 rfl ?_
        obtain ⟨w3, h3, h⟩ := aw_b1s h
        refine aw_callV (pc := 38) (as := []) (st := []) (st' := []) dX12_voids_38 cv_RX12_326 (by decide) rfl rfl rfl rfl (Nat.le_of_ble_eq_true rfl) (w_m_judge N d (by omega) _ _ h3) rfl ?_
        refine aw_iload_n (pc := 41) (q := 1) dX12_voids_41 rfl ?_
        refine aw_aload_n (pc := 42) (q := 0) dX12_voids_42 rfl ?_
        obtain ⟨r4, w4, h4, h⟩ := aw_b2s h
        refine aw_callV (pc := 43) (as := []) (st := [.inl x1]) (st' := [.inl r4, .inl x1]) dX12_voids_43 cv_RX12_320 (by decide) rfl rfl rfl rfl (Nat.le_of_ble_eq_true rfl) (w_m_winner N d (by omega) _ _ _ h4) rfl ?_
        refine aw_iconst (pc := 46) dX12_voids_46 ⟨by decide, by decide⟩ ?_
        refine aw_icmp_ne (pc := 47) (tgt := 54) dX12_voids_47 (by decide) (fun hc => ?_) (fun hc => ?_)
        · rw [if_neg hc] at h
          refine aw_iconst (pc := 54) dX12_voids_54 ⟨by decide, by decide⟩ ?_
          exact aw_sel [0, 2] rfl (w_m_voids_55 N d hd  _ ih _ _ _ _ _ _ h)
        · rw [if_pos hc] at h
          refine aw_iconst (pc := 50) dX12_voids_50 ⟨by decide, by decide⟩ ?_
          refine aw_goto (pc := 51) (tgt := 55) dX12_voids_51 (by decide) ?_
          exact aw_sel [0, 2] rfl (w_m_voids_55 N d hd  _ ih _ _ _ _ _ _ h)
      · rw [if_pos hc] at h
        refine aw_goto (pc := 34) (tgt := 57) dX12_voids_34 (by decide) ?_
        exact aw_sel [0, 1, 2] rfl (w_m_voids_57 N d hd  _ ih _ _ _ _ _ h)
def m_voids (N : Nat) (w : aw_W) : Option (Int × aw_W) :=
  aw_b2 (m_areFew N (aw_up w 49 0 0)) fun r1 w1 =>
    if r1 = 0 then
      some ((-1), w1)
    else
      m_voids_18 N N 0 0 w1
theorem w_m_voids_d {l : Launch} {K : aw_K} (N d : Nat) (hd : 2 ≤ d) : ∀ (w : aw_W) (y : Int) (v : aw_W), m_voids N w = some (y, v) → aw_Met l K MX12_voids (d + 1) [.inr (.inr 49)] w (some (.inl y), v) := by
  intro w y v h
  unfold m_voids at h
  refine aw_enter rfl (Nat.le_of_ble_eq_true rfl) ?_
  show aw_AW l K MX12_voids (d + 1) 0 [(0, .inr (.inr 49))] [] w (some (.inl y), v)
  refine aw_aload_n (pc := 0) (q := 0) dX12_voids_0 rfl ?_
  refine aw_iconst (pc := 1) dX12_voids_1 ⟨by decide, by decide⟩ ?_
  refine aw_puti (pc := 2) dX12_voids_2 fp_RX12_99 (by decide) rfl rfl ?_
  refine aw_aload_n (pc := 5) (q := 0) dX12_voids_5 rfl ?_
  obtain ⟨r1, w1, h1, h⟩ := aw_b2s h
  refine aw_callV (pc := 6) (as := []) (st := []) (st' := [.inl r1]) dX12_voids_6 cv_RX12_360 (by decide) rfl rfl rfl rfl (Nat.le_of_ble_eq_true rfl) (w_m_areFew N d (by omega) _ _ _ h1) rfl ?_
  refine aw_if_ne (pc := 9) (tgt := 14) dX12_voids_9 (by decide) (fun hc => ?_) (fun hc => ?_)
  · rw [if_neg hc] at h
    refine aw_iconst (pc := 14) dX12_voids_14 ⟨by decide, by decide⟩ ?_
    refine aw_istore_n (pc := 15) (ls' := [(1, .inl 0), (0, .inr (.inr 49))]) dX12_voids_15 (by decide) rfl ?_
    refine aw_iconst (pc := 16) dX12_voids_16 ⟨by decide, by decide⟩ ?_
    refine aw_istore_n (pc := 17) (ls' := [(2, .inl 0), (1, .inl 0), (0, .inr (.inr 49))]) dX12_voids_17 (by decide) rfl ?_
    exact aw_sel [2, 1, 0] rfl (w_m_voids_18 N d hd  N _ _ _ _ _ h)
  · rw [if_pos hc] at h
    refine aw_iconst (pc := 12) dX12_voids_12 ⟨by decide, by decide⟩ ?_
    cases h
    exact aw_iret (pc := 13) rfl dX12_voids_13
theorem w_m_voids {l : Launch} {K : aw_K} (N d : Nat) (hd : 3 ≤ d) : ∀ (w : aw_W) (y : Int) (v : aw_W), m_voids N w = some (y, v) → aw_Met l K MX12_voids (d) [.inr (.inr 49)] w (some (.inl y), v) := by
  obtain ⟨e, rfl⟩ : ∃ e, d = e + 1 := ⟨d - 1, by omega⟩
  exact w_m_voids_d N e (by omega)
theorem dX12_waits_0 : decode cX12_waits 0 = .ok (.aload_n 0, 1) := by decide +kernel
theorem dX12_waits_1 : decode cX12_waits 1 = .ok (.iconst 0, 1) := by decide +kernel
theorem dX12_waits_2 : decode cX12_waits 2 = .ok (.putfield 99, 3) := by decide +kernel
theorem dX12_waits_5 : decode cX12_waits 5 = .ok (.aload_n 0, 1) := by decide +kernel
theorem dX12_waits_6 : decode cX12_waits 6 = .ok (.iload_n 1, 1) := by decide +kernel
theorem dX12_waits_7 : decode cX12_waits 7 = .ok (.invokevirtual 393, 3) := by decide +kernel
theorem dX12_waits_10 : decode cX12_waits 10 = .ok (.ifCond .eq 11, 3) := by decide +kernel
theorem dX12_waits_13 : decode cX12_waits 13 = .ok (.aload_n 0, 1) := by decide +kernel
theorem dX12_waits_14 : decode cX12_waits 14 = .ok (.iload_n 2, 1) := by decide +kernel
theorem dX12_waits_15 : decode cX12_waits 15 = .ok (.invokevirtual 282, 3) := by decide +kernel
theorem dX12_waits_18 : decode cX12_waits 18 = .ok (.ifCond .ne 7, 3) := by decide +kernel
theorem dX12_waits_21 : decode cX12_waits 21 = .ok (.ldc_w 315, 3) := by decide +kernel
theorem dX12_waits_24 : decode cX12_waits 24 = .ok (.ireturn, 1) := by decide +kernel
theorem dX12_waits_25 : decode cX12_waits 25 = .ok (.aload_n 0, 1) := by decide +kernel
theorem dX12_waits_26 : decode cX12_waits 26 = .ok (.iload_n 1, 1) := by decide +kernel
theorem dX12_waits_27 : decode cX12_waits 27 = .ok (.aload_n 0, 1) := by decide +kernel
theorem dX12_waits_28 : decode cX12_waits 28 = .ok (.getfield 43, 3) := by decide +kernel
theorem dX12_waits_31 : decode cX12_waits 31 = .ok (.iconst 3, 1) := by decide +kernel
theorem dX12_waits_32 : decode cX12_waits 32 = .ok (.iaload, 1) := by decide +kernel
theorem dX12_waits_33 : decode cX12_waits 33 = .ok (.invokevirtual 396, 3) := by decide +kernel
theorem dX12_waits_36 : decode cX12_waits 36 = .ok (.aload_n 0, 1) := by decide +kernel
theorem dX12_waits_37 : decode cX12_waits 37 = .ok (.getfield 81, 3) := by decide +kernel
theorem dX12_waits_40 : decode cX12_waits 40 = .ok (.iload_n 2, 1) := by decide +kernel
theorem dX12_waits_41 : decode cX12_waits 41 = .ok (.iaload, 1) := by decide +kernel
theorem dX12_waits_42 : decode cX12_waits 42 = .ok (.ireturn, 1) := by decide +kernel
def m_waits_21 (N : Nat) (w : aw_W) : Option (Int × aw_W) :=
  some ((-1000000), w)
theorem w_m_waits_21 {l : Launch} {K : aw_K} (N d : Nat) (hd : 1 ≤ d) : ∀ (w : aw_W) (y : Int) (v : aw_W), m_waits_21 N w = some (y, v) → aw_AW l K MX12_waits (d + 1) 21 [] [] w (some (.inl y), v) := by
  intro w y v h
  unfold m_waits_21 at h
  refine aw_ldcw (pc := 21) (x := (-1000000)) dX12_waits_21 cn_RX12_315 ⟨by decide, by decide⟩ ?_
  cases h
  exact aw_iret (pc := 24) rfl dX12_waits_24
def m_waits (N : Nat) (x1 x2 : Int) (w : aw_W) : Option (Int × aw_W) :=
  aw_b2 (m_areTurns N x1 (aw_up w 49 0 0)) fun r1 w1 =>
    if r1 = 0 then
      m_waits_21 N w1
    else
      aw_b2 (m_isStriver N x2 w1) fun r2 w2 =>
        if r2 = 0 then
          m_waits_21 N w2
        else
          aw_b1 (m_layTurns N x1 (w2 56 3) w2) fun w3 =>
            if 0 ≤ x2 ∧ x2 < 6 then
              some (w3 67 x2.toNat, w3)
            else none
theorem w_m_waits_d {l : Launch} {K : aw_K} (N d : Nat) (hd : 1 ≤ d) : ∀ (x1 x2 : Int) (w : aw_W) (y : Int) (v : aw_W), m_waits N x1 x2 w = some (y, v) → aw_Met l K MX12_waits (d + 1) [.inr (.inr 49), .inl x1, .inl x2] w (some (.inl y), v) := by
  intro x1 x2 w y v h
  unfold m_waits at h
  refine aw_enter rfl (Nat.le_of_ble_eq_true rfl) ?_
  show aw_AW l K MX12_waits (d + 1) 0 [(0, .inr (.inr 49)), (1, .inl x1), (2, .inl x2)] [] w (some (.inl y), v)
  refine aw_aload_n (pc := 0) (q := 0) dX12_waits_0 rfl ?_
  refine aw_iconst (pc := 1) dX12_waits_1 ⟨by decide, by decide⟩ ?_
  refine aw_puti (pc := 2) dX12_waits_2 fp_RX12_99 (by decide) rfl rfl ?_
  refine aw_aload_n (pc := 5) (q := 0) dX12_waits_5 rfl ?_
  refine aw_iload_n (pc := 6) (q := 1) dX12_waits_6 rfl ?_
  obtain ⟨r1, w1, h1, h⟩ := aw_b2s h
  refine aw_callV (pc := 7) (as := [.inl x1]) (st := []) (st' := [.inl r1]) dX12_waits_7 cv_RX12_393 (by decide) rfl rfl rfl rfl (Nat.le_of_ble_eq_true rfl) (w_m_areTurns N d (by omega) _ _ _ _ h1) rfl ?_
  refine aw_if_eq (pc := 10) (tgt := 21) dX12_waits_10 (by decide) (fun hc => ?_) (fun hc => ?_)
  · rw [if_pos hc] at h
    exact aw_sel [] rfl (w_m_waits_21 N d hd  _ _ _ h)
  · rw [if_neg hc] at h
    refine aw_aload_n (pc := 13) (q := 0) dX12_waits_13 rfl ?_
    refine aw_iload_n (pc := 14) (q := 2) dX12_waits_14 rfl ?_
    obtain ⟨r2, w2, h2, h⟩ := aw_b2s h
    refine aw_callV (pc := 15) (as := [.inl x2]) (st := []) (st' := [.inl r2]) dX12_waits_15 cv_RX12_282 (by decide) rfl rfl rfl rfl (Nat.le_of_ble_eq_true rfl) (w_m_isStriver N d (by omega) _ _ _ _ h2) rfl ?_
    refine aw_if_ne (pc := 18) (tgt := 25) dX12_waits_18 (by decide) (fun hc => ?_) (fun hc => ?_)
    · rw [if_neg hc] at h
      refine aw_aload_n (pc := 25) (q := 0) dX12_waits_25 rfl ?_
      refine aw_iload_n (pc := 26) (q := 1) dX12_waits_26 rfl ?_
      refine aw_aload_n (pc := 27) (q := 0) dX12_waits_27 rfl ?_
      refine aw_getf (pc := 28) (v := .inr (.inr 56)) dX12_waits_28 fl_RX12_43 (by decide) rfl rfl rfl ?_
      refine aw_iconst (pc := 31) dX12_waits_31 ⟨by decide, by decide⟩ ?_
      refine aw_ialdv (pc := 32) (v := w2 56 3) dX12_waits_32 rfl (by decide) (by decide) rfl ?_
      obtain ⟨w3, h3, h⟩ := aw_b1s h
      refine aw_callV (pc := 33) (as := [.inl x1, .inl (w2 56 3)]) (st := []) (st' := []) dX12_waits_33 cv_RX12_396 (by decide) rfl rfl rfl rfl (Nat.le_of_ble_eq_true rfl) (w_m_layTurns N d (by omega) _ _ _ _ h3) rfl ?_
      refine aw_aload_n (pc := 36) (q := 0) dX12_waits_36 rfl ?_
      refine aw_getf (pc := 37) (v := .inr (.inr 67)) dX12_waits_37 fl_RX12_81 (by decide) rfl rfl rfl ?_
      refine aw_iload_n (pc := 40) (q := 2) dX12_waits_40 rfl ?_
      obtain ⟨hb, h⟩ := aw_cks h
      refine aw_ialdv (pc := 41) (v := w3 67 x2.toNat) dX12_waits_41 rfl hb.1 hb.2 rfl ?_
      cases h
      exact aw_iret (pc := 42) rfl dX12_waits_42
    · rw [if_pos hc] at h
      exact aw_sel [] rfl (w_m_waits_21 N d hd  _ _ _ h)
theorem w_m_waits {l : Launch} {K : aw_K} (N d : Nat) (hd : 2 ≤ d) : ∀ (x1 x2 : Int) (w : aw_W) (y : Int) (v : aw_W), m_waits N x1 x2 w = some (y, v) → aw_Met l K MX12_waits (d) [.inr (.inr 49), .inl x1, .inl x2] w (some (.inl y), v) := by
  obtain ⟨e, rfl⟩ : ∃ e, d = e + 1 := ⟨d - 1, by omega⟩
  exact w_m_waits_d N e (by omega)
theorem dX12_without_0 : decode cX12_without 0 = .ok (.aload_n 0, 1) := by decide +kernel
theorem dX12_without_1 : decode cX12_without 1 = .ok (.iconst 0, 1) := by decide +kernel
theorem dX12_without_2 : decode cX12_without 2 = .ok (.putfield 99, 3) := by decide +kernel
theorem dX12_without_5 : decode cX12_without 5 = .ok (.aload_n 0, 1) := by decide +kernel
theorem dX12_without_6 : decode cX12_without 6 = .ok (.iload_n 1, 1) := by decide +kernel
theorem dX12_without_7 : decode cX12_without 7 = .ok (.iload_n 2, 1) := by decide +kernel
theorem dX12_without_8 : decode cX12_without 8 = .ok (.invokevirtual 310, 3) := by decide +kernel
theorem dX12_without_11 : decode cX12_without 11 = .ok (.ifCond .eq 11, 3) := by decide +kernel
theorem dX12_without_14 : decode cX12_without 14 = .ok (.aload_n 0, 1) := by decide +kernel
theorem dX12_without_15 : decode cX12_without 15 = .ok (.iload_n 3, 1) := by decide +kernel
theorem dX12_without_16 : decode cX12_without 16 = .ok (.invokevirtual 282, 3) := by decide +kernel
theorem dX12_without_19 : decode cX12_without 19 = .ok (.ifCond .ne 7, 3) := by decide +kernel
theorem dX12_without_22 : decode cX12_without 22 = .ok (.ldc_w 315, 3) := by decide +kernel
theorem dX12_without_25 : decode cX12_without 25 = .ok (.ireturn, 1) := by decide +kernel
theorem dX12_without_26 : decode cX12_without 26 = .ok (.aload_n 0, 1) := by decide +kernel
theorem dX12_without_27 : decode cX12_without 27 = .ok (.iload_n 3, 1) := by decide +kernel
theorem dX12_without_28 : decode cX12_without 28 = .ok (.putfield 68, 3) := by decide +kernel
theorem dX12_without_31 : decode cX12_without 31 = .ok (.aload_n 0, 1) := by decide +kernel
theorem dX12_without_32 : decode cX12_without 32 = .ok (.iload_n 1, 1) := by decide +kernel
theorem dX12_without_33 : decode cX12_without 33 = .ok (.iload_n 2, 1) := by decide +kernel
theorem dX12_without_34 : decode cX12_without 34 = .ok (.invokevirtual 316, 3) := by decide +kernel
theorem dX12_without_37 : decode cX12_without 37 = .ok (.aload_n 0, 1) := by decide +kernel
theorem dX12_without_38 : decode cX12_without 38 = .ok (.iconst (-1), 1) := by decide +kernel
theorem dX12_without_39 : decode cX12_without 39 = .ok (.putfield 68, 3) := by decide +kernel
theorem dX12_without_42 : decode cX12_without 42 = .ok (.aload_n 0, 1) := by decide +kernel
theorem dX12_without_43 : decode cX12_without 43 = .ok (.invokevirtual 320, 3) := by decide +kernel
theorem dX12_without_46 : decode cX12_without 46 = .ok (.ireturn, 1) := by decide +kernel
def m_without_22 (N : Nat) (w : aw_W) : Option (Int × aw_W) :=
  some ((-1000000), w)
theorem w_m_without_22 {l : Launch} {K : aw_K} (N d : Nat) (hd : 129 ≤ d) : ∀ (w : aw_W) (y : Int) (v : aw_W), m_without_22 N w = some (y, v) → aw_AW l K MX12_without (d + 1) 22 [] [] w (some (.inl y), v) := by
  intro w y v h
  unfold m_without_22 at h
  refine aw_ldcw (pc := 22) (x := (-1000000)) dX12_without_22 cn_RX12_315 ⟨by decide, by decide⟩ ?_
  cases h
  exact aw_iret (pc := 25) rfl dX12_without_25
def m_without (N : Nat) (x1 x2 x3 : Int) (w : aw_W) : Option (Int × aw_W) :=
  aw_b2 (m_isRace N x1 x2 (aw_up w 49 0 0)) fun r1 w1 =>
    if r1 = 0 then
      m_without_22 N w1
    else
      aw_b2 (m_isStriver N x3 w1) fun r2 w2 =>
        if r2 = 0 then
          m_without_22 N w2
        else
          aw_b1 (m_run N x1 x2 (aw_up w2 49 32 x3)) fun w3 =>
            aw_b2 (m_winner N (aw_up w3 49 32 (-1))) fun r4 w4 =>
              some (r4, w4)
theorem w_m_without_d {l : Launch} {K : aw_K} (N d : Nat) (hd : 129 ≤ d) : ∀ (x1 x2 x3 : Int) (w : aw_W) (y : Int) (v : aw_W), m_without N x1 x2 x3 w = some (y, v) → aw_Met l K MX12_without (d + 1) [.inr (.inr 49), .inl x1, .inl x2, .inl x3] w (some (.inl y), v) := by
  intro x1 x2 x3 w y v h
  unfold m_without at h
  refine aw_enter rfl (Nat.le_of_ble_eq_true rfl) ?_
  show aw_AW l K MX12_without (d + 1) 0 [(0, .inr (.inr 49)), (1, .inl x1), (2, .inl x2), (3, .inl x3)] [] w (some (.inl y), v)
  refine aw_aload_n (pc := 0) (q := 0) dX12_without_0 rfl ?_
  refine aw_iconst (pc := 1) dX12_without_1 ⟨by decide, by decide⟩ ?_
  refine aw_puti (pc := 2) dX12_without_2 fp_RX12_99 (by decide) rfl rfl ?_
  refine aw_aload_n (pc := 5) (q := 0) dX12_without_5 rfl ?_
  refine aw_iload_n (pc := 6) (q := 1) dX12_without_6 rfl ?_
  refine aw_iload_n (pc := 7) (q := 2) dX12_without_7 rfl ?_
  obtain ⟨r1, w1, h1, h⟩ := aw_b2s h
  refine aw_callV (pc := 8) (as := [.inl x1, .inl x2]) (st := []) (st' := [.inl r1]) dX12_without_8 cv_RX12_310 (by decide) rfl rfl rfl rfl (Nat.le_of_ble_eq_true rfl) (w_m_isRace N d (by omega) _ _ _ _ _ h1) rfl ?_
  refine aw_if_eq (pc := 11) (tgt := 22) dX12_without_11 (by decide) (fun hc => ?_) (fun hc => ?_)
  · rw [if_pos hc] at h
    exact aw_sel [] rfl (w_m_without_22 N d hd  _ _ _ h)
  · rw [if_neg hc] at h
    refine aw_aload_n (pc := 14) (q := 0) dX12_without_14 rfl ?_
    refine aw_iload_n (pc := 15) (q := 3) dX12_without_15 rfl ?_
    obtain ⟨r2, w2, h2, h⟩ := aw_b2s h
    refine aw_callV (pc := 16) (as := [.inl x3]) (st := []) (st' := [.inl r2]) dX12_without_16 cv_RX12_282 (by decide) rfl rfl rfl rfl (Nat.le_of_ble_eq_true rfl) (w_m_isStriver N d (by omega) _ _ _ _ h2) rfl ?_
    refine aw_if_ne (pc := 19) (tgt := 26) dX12_without_19 (by decide) (fun hc => ?_) (fun hc => ?_)
    · rw [if_neg hc] at h
      refine aw_aload_n (pc := 26) (q := 0) dX12_without_26 rfl ?_
      refine aw_iload_n (pc := 27) (q := 3) dX12_without_27 rfl ?_
      refine aw_puti (pc := 28) dX12_without_28 fp_RX12_68 (by decide) rfl rfl ?_
      refine aw_aload_n (pc := 31) (q := 0) dX12_without_31 rfl ?_
      refine aw_iload_n (pc := 32) (q := 1) dX12_without_32 rfl ?_
      refine aw_iload_n (pc := 33) (q := 2) dX12_without_33 rfl ?_
      obtain ⟨w3, h3, h⟩ := aw_b1s h
      refine aw_callV (pc := 34) (as := [.inl x1, .inl x2]) (st := []) (st' := []) dX12_without_34 cv_RX12_316 (by decide) rfl rfl rfl rfl (Nat.le_of_ble_eq_true rfl) (w_m_run N d (by omega) _ _ _ _ h3) rfl ?_
      refine aw_aload_n (pc := 37) (q := 0) dX12_without_37 rfl ?_
      refine aw_iconst (pc := 38) dX12_without_38 ⟨by decide, by decide⟩ ?_
      refine aw_puti (pc := 39) dX12_without_39 fp_RX12_68 (by decide) rfl rfl ?_
      refine aw_aload_n (pc := 42) (q := 0) dX12_without_42 rfl ?_
      obtain ⟨r4, w4, h4, h⟩ := aw_b2s h
      refine aw_callV (pc := 43) (as := []) (st := []) (st' := [.inl r4]) dX12_without_43 cv_RX12_320 (by decide) rfl rfl rfl rfl (Nat.le_of_ble_eq_true rfl) (w_m_winner N d (by omega) _ _ _ h4) rfl ?_
      cases h
      exact aw_iret (pc := 46) rfl dX12_without_46
    · rw [if_pos hc] at h
      exact aw_sel [] rfl (w_m_without_22 N d hd  _ _ _ h)
theorem w_m_without {l : Launch} {K : aw_K} (N d : Nat) (hd : 130 ≤ d) : ∀ (x1 x2 x3 : Int) (w : aw_W) (y : Int) (v : aw_W), m_without N x1 x2 x3 w = some (y, v) → aw_Met l K MX12_without (d) [.inr (.inr 49), .inl x1, .inl x2, .inl x3] w (some (.inl y), v) := by
  obtain ⟨e, rfl⟩ : ∃ e, d = e + 1 := ⟨d - 1, by omega⟩
  exact w_m_without_d N e (by omega)
theorem dX12_years_0 : decode cX12_years 0 = .ok (.aload_n 0, 1) := by decide +kernel
theorem dX12_years_1 : decode cX12_years 1 = .ok (.iconst 0, 1) := by decide +kernel
theorem dX12_years_2 : decode cX12_years 2 = .ok (.putfield 99, 3) := by decide +kernel
theorem dX12_years_5 : decode cX12_years 5 = .ok (.aload_n 0, 1) := by decide +kernel
theorem dX12_years_6 : decode cX12_years 6 = .ok (.getfield 270, 3) := by decide +kernel
theorem dX12_years_9 : decode cX12_years 9 = .ok (.ifCond .eq 26, 3) := by decide +kernel
theorem dX12_years_12 : decode cX12_years 12 = .ok (.iload_n 1, 1) := by decide +kernel
theorem dX12_years_13 : decode cX12_years 13 = .ok (.i2l, 1) := by decide +kernel
theorem dX12_years_14 : decode cX12_years 14 = .ok (.lconst 1, 1) := by decide +kernel
theorem dX12_years_15 : decode cX12_years 15 = .ok (.ldc2_w 411, 3) := by decide +kernel
theorem dX12_years_18 : decode cX12_years 18 = .ok (.invokestatic 227, 3) := by decide +kernel
theorem dX12_years_21 : decode cX12_years 21 = .ok (.ifCond .eq 14, 3) := by decide +kernel
theorem dX12_years_24 : decode cX12_years 24 = .ok (.aload_n 0, 1) := by decide +kernel
theorem dX12_years_25 : decode cX12_years 25 = .ok (.getfield 273, 3) := by decide +kernel
theorem dX12_years_28 : decode cX12_years 28 = .ok (.iload_n 1, 1) := by decide +kernel
theorem dX12_years_29 : decode cX12_years 29 = .ok (.iadd, 1) := by decide +kernel
theorem dX12_years_30 : decode cX12_years 30 = .ok (.bipush 40, 2) := by decide +kernel
theorem dX12_years_32 : decode cX12_years 32 = .ok (.if_icmp .le 5, 3) := by decide +kernel
theorem dX12_years_35 : decode cX12_years 35 = .ok (.iconst (-1), 1) := by decide +kernel
theorem dX12_years_36 : decode cX12_years 36 = .ok (.ireturn, 1) := by decide +kernel
theorem dX12_years_37 : decode cX12_years 37 = .ok (.aload_n 0, 1) := by decide +kernel
theorem dX12_years_38 : decode cX12_years 38 = .ok (.lload_n 2, 1) := by decide +kernel
theorem dX12_years_39 : decode cX12_years 39 = .ok (.putfield 413, 3) := by decide +kernel
theorem dX12_years_42 : decode cX12_years 42 = .ok (.iconst 0, 1) := by decide +kernel
theorem dX12_years_43 : decode cX12_years 43 = .ok (.istore 4, 2) := by decide +kernel
theorem dX12_years_45 : decode cX12_years 45 = .ok (.iload 4, 2) := by decide +kernel
theorem dX12_years_47 : decode cX12_years 47 = .ok (.iload_n 1, 1) := by decide +kernel
theorem dX12_years_48 : decode cX12_years 48 = .ok (.if_icmp .ge 91, 3) := by decide +kernel
theorem dX12_years_51 : decode cX12_years 51 = .ok (.iconst 0, 1) := by decide +kernel
theorem dX12_years_52 : decode cX12_years 52 = .ok (.istore 5, 2) := by decide +kernel
theorem dX12_years_54 : decode cX12_years 54 = .ok (.iload 5, 2) := by decide +kernel
theorem dX12_years_56 : decode cX12_years 56 = .ok (.aload_n 0, 1) := by decide +kernel
theorem dX12_years_57 : decode cX12_years 57 = .ok (.getfield 270, 3) := by decide +kernel
theorem dX12_years_60 : decode cX12_years 60 = .ok (.if_icmp .ge 50, 3) := by decide +kernel
theorem dX12_years_63 : decode cX12_years 63 = .ok (.aload_n 0, 1) := by decide +kernel
theorem dX12_years_64 : decode cX12_years 64 = .ok (.aload_n 0, 1) := by decide +kernel
theorem dX12_years_65 : decode cX12_years 65 = .ok (.getfield 413, 3) := by decide +kernel
theorem dX12_years_68 : decode cX12_years 68 = .ok (.ldc2_w 417, 3) := by decide +kernel
theorem dX12_years_71 : decode cX12_years 71 = .ok (.lmul, 1) := by decide +kernel
theorem dX12_years_72 : decode cX12_years 72 = .ok (.ldc2_w 419, 3) := by decide +kernel
theorem dX12_years_75 : decode cX12_years 75 = .ok (.ladd, 1) := by decide +kernel
theorem dX12_years_76 : decode cX12_years 76 = .ok (.putfield 413, 3) := by decide +kernel
theorem dX12_years_79 : decode cX12_years 79 = .ok (.aload_n 0, 1) := by decide +kernel
theorem dX12_years_80 : decode cX12_years 80 = .ok (.getfield 72, 3) := by decide +kernel
theorem dX12_years_83 : decode cX12_years 83 = .ok (.iload 5, 2) := by decide +kernel
theorem dX12_years_85 : decode cX12_years 85 = .ok (.aload_n 0, 1) := by decide +kernel
theorem dX12_years_86 : decode cX12_years 86 = .ok (.getfield 413, 3) := by decide +kernel
theorem dX12_years_89 : decode cX12_years 89 = .ok (.bipush 33, 2) := by decide +kernel
theorem dX12_years_91 : decode cX12_years 91 = .ok (.lushr, 1) := by decide +kernel
theorem dX12_years_92 : decode cX12_years 92 = .ok (.aload_n 0, 1) := by decide +kernel
theorem dX12_years_93 : decode cX12_years 93 = .ok (.getfield 43, 3) := by decide +kernel
theorem dX12_years_96 : decode cX12_years 96 = .ok (.iconst 4, 1) := by decide +kernel
theorem dX12_years_97 : decode cX12_years 97 = .ok (.iaload, 1) := by decide +kernel
theorem dX12_years_98 : decode cX12_years 98 = .ok (.iconst 1, 1) := by decide +kernel
theorem dX12_years_99 : decode cX12_years 99 = .ok (.iadd, 1) := by decide +kernel
theorem dX12_years_100 : decode cX12_years 100 = .ok (.i2l, 1) := by decide +kernel
theorem dX12_years_101 : decode cX12_years 101 = .ok (.lrem, 1) := by decide +kernel
theorem dX12_years_102 : decode cX12_years 102 = .ok (.l2i, 1) := by decide +kernel
theorem dX12_years_103 : decode cX12_years 103 = .ok (.iastore, 1) := by decide +kernel
theorem dX12_years_104 : decode cX12_years 104 = .ok (.iinc 5 1, 3) := by decide +kernel
theorem dX12_years_107 : decode cX12_years 107 = .ok (.goto (-53), 3) := by decide +kernel
theorem dX12_years_110 : decode cX12_years 110 = .ok (.aload_n 0, 1) := by decide +kernel
theorem dX12_years_111 : decode cX12_years 111 = .ok (.getfield 87, 3) := by decide +kernel
theorem dX12_years_114 : decode cX12_years 114 = .ok (.aload_n 0, 1) := by decide +kernel
theorem dX12_years_115 : decode cX12_years 115 = .ok (.getfield 273, 3) := by decide +kernel
theorem dX12_years_118 : decode cX12_years 118 = .ok (.aload_n 0, 1) := by decide +kernel
theorem dX12_years_119 : decode cX12_years 119 = .ok (.invokevirtual 378, 3) := by decide +kernel
theorem dX12_years_122 : decode cX12_years 122 = .ok (.iastore, 1) := by decide +kernel
theorem dX12_years_123 : decode cX12_years 123 = .ok (.aload_n 0, 1) := by decide +kernel
theorem dX12_years_124 : decode cX12_years 124 = .ok (.dup, 1) := by decide +kernel
theorem dX12_years_125 : decode cX12_years 125 = .ok (.getfield 273, 3) := by decide +kernel
theorem dX12_years_128 : decode cX12_years 128 = .ok (.iconst 1, 1) := by decide +kernel
theorem dX12_years_129 : decode cX12_years 129 = .ok (.iadd, 1) := by decide +kernel
theorem dX12_years_130 : decode cX12_years 130 = .ok (.putfield 273, 3) := by decide +kernel
theorem dX12_years_133 : decode cX12_years 133 = .ok (.iinc 4 1, 3) := by decide +kernel
theorem dX12_years_136 : decode cX12_years 136 = .ok (.goto (-91), 3) := by decide +kernel
theorem dX12_years_139 : decode cX12_years 139 = .ok (.aload_n 0, 1) := by decide +kernel
theorem dX12_years_140 : decode cX12_years 140 = .ok (.getfield 273, 3) := by decide +kernel
theorem dX12_years_143 : decode cX12_years 143 = .ok (.ireturn, 1) := by decide +kernel
def m_years_35 (N : Nat) (w : aw_W) : Option (Int × aw_W) :=
  some ((-1), w)
theorem w_m_years_35 {l : Launch} {K : aw_K} (N d : Nat) (hd : 0 ≤ d) : ∀ (w : aw_W) (y : Int) (v : aw_W), m_years_35 N w = some (y, v) → aw_AW l K MX12_years (d + 1) 35 [] [] w (some (.inl y), v) := by
  intro w y v h
  unfold m_years_35 at h
  refine aw_iconst (pc := 35) dX12_years_35 ⟨by decide, by decide⟩ ?_
  cases h
  exact aw_iret (pc := 36) rfl dX12_years_36
def m_years_139 (N : Nat) (w : aw_W) : Option (Int × aw_W) :=
  some (w 49 43, w)
theorem w_m_years_139 {l : Launch} {K : aw_K} (N d : Nat) (hd : 0 ≤ d) : ∀ (w : aw_W) (y : Int) (v : aw_W), m_years_139 N w = some (y, v) → aw_AW l K MX12_years (d + 1) 139 [(0, .inr (.inr 49))] [] w (some (.inl y), v) := by
  intro w y v h
  unfold m_years_139 at h
  refine aw_aload_n (pc := 139) (q := 0) dX12_years_139 rfl ?_
  refine aw_getf (pc := 140) (v := .inl (w 49 43)) dX12_years_140 fl_RX12_273 (by decide) rfl rfl rfl ?_
  cases h
  exact aw_iret (pc := 143) rfl dX12_years_143
def m_years_110 (N : Nat) (k45 : Int → Int → aw_W → Option (Int × aw_W)) (x1 x4 : Int) (w : aw_W) : Option (Int × aw_W) :=
  aw_b2 (m_rowOf N w) fun r1 w1 =>
    if 0 ≤ (w 49 43) ∧ (w 49 43) < 40 then
      k45 x1 (aw_w (x4 + 1)) (aw_up (aw_up w1 69 ((w 49 43).toNat) r1) 49 43 (aw_w ((w1 49 43) + 1)))
    else none
theorem w_m_years_110 {l : Launch} {K : aw_K} (N d : Nat) (hd : 0 ≤ d) (k45 : Int → Int → aw_W → Option (Int × aw_W)) (hk45 : ∀ (x1 x4 : Int) (w : aw_W) (y : Int) (v : aw_W), k45 x1 x4 w = some (y, v) → aw_AW l K MX12_years (d + 1) 45 [(0, .inr (.inr 49)), (1, .inl x1), (4, .inl x4)] [] w (some (.inl y), v)) : ∀ (x1 x4 : Int) (w : aw_W) (y : Int) (v : aw_W), m_years_110 N k45 x1 x4 w = some (y, v) → aw_AW l K MX12_years (d + 1) 110 [(0, .inr (.inr 49)), (1, .inl x1), (4, .inl x4)] [] w (some (.inl y), v) := by
  intro x1 x4 w y v h
  unfold m_years_110 at h
  refine aw_aload_n (pc := 110) (q := 0) dX12_years_110 rfl ?_
  refine aw_getf (pc := 111) (v := .inr (.inr 69)) dX12_years_111 fl_RX12_87 (by decide) rfl rfl rfl ?_
  refine aw_aload_n (pc := 114) (q := 0) dX12_years_114 rfl ?_
  refine aw_getf (pc := 115) (v := .inl (w 49 43)) dX12_years_115 fl_RX12_273 (by decide) rfl rfl rfl ?_
  refine aw_aload_n (pc := 118) (q := 0) dX12_years_118 rfl ?_
  obtain ⟨r1, w1, h1, h⟩ := aw_b2s h
  refine aw_callV (pc := 119) (as := []) (st := [.inl (w 49 43), .inr (.inr 69)]) (st' := [.inl r1, .inl (w 49 43), .inr (.inr 69)]) dX12_years_119 cv_RX12_378 (by decide) rfl rfl rfl rfl (Nat.le_of_ble_eq_true rfl) (w_m_rowOf N d (by omega) _ _ _ h1) rfl ?_
  obtain ⟨hb, h⟩ := aw_cks h
  refine aw_iast (pc := 122) dX12_years_122 rfl hb.1 hb.2 ?_
  refine aw_aload_n (pc := 123) (q := 0) dX12_years_123 rfl ?_
  refine aw_dup (pc := 124) dX12_years_124 rfl ?_
  refine aw_getf (pc := 125) (v := .inl (w1 49 43)) dX12_years_125 fl_RX12_273 (by decide) rfl rfl rfl ?_
  refine aw_iconst (pc := 128) dX12_years_128 ⟨by decide, by decide⟩ ?_
  refine aw_iadd (pc := 129) dX12_years_129 ?_
  refine aw_puti (pc := 130) dX12_years_130 fp_RX12_273 (by decide) rfl rfl ?_
  refine aw_iinc (pc := 133) (q := 2) (ls' := [(4, .inl (aw_w (x4 + 1))), (0, .inr (.inr 49)), (1, .inl x1)]) dX12_years_133 rfl (by decide) rfl ?_
  refine aw_goto (pc := 136) (tgt := 45) dX12_years_136 (by decide) ?_
  exact aw_sel [1, 2, 0] rfl (hk45 _ _ _ _ _ h)
def m_years_54 (N : Nat) (k45 : Int → Int → aw_W → Option (Int × aw_W)) : Nat → Int → Int → Int → aw_W → Option (Int × aw_W)
  | 0, _, _, _, _ => none
  | n + 1, x1, x4, x5, w =>
    if (w 49 22) ≤ x5 then
      m_years_110 N k45 x1 x4 w
    else
      if ¬ (aw_w ((w 56 4) + 1)) = 0 then
        if 0 ≤ x5 ∧ x5 < 6 then
          m_years_54 N k45 n x1 x4 (aw_w (x5 + 1)) (aw_up (aw_up w 49 44 (aw_wl ((aw_wl ((w 49 44) * 6364136223846793005)) + 1442695040888963407))) 64 x5.toNat (aw_w (aw_wl (Int.tmod (aw_ushrL (aw_wl ((aw_wl ((w 49 44) * 6364136223846793005)) + 1442695040888963407)) 33) (aw_w ((w 56 4) + 1))))))
        else none
      else none
theorem w_m_years_54 {l : Launch} {K : aw_K} (N d : Nat) (hd : 0 ≤ d) (k45 : Int → Int → aw_W → Option (Int × aw_W)) (hk45 : ∀ (x1 x4 : Int) (w : aw_W) (y : Int) (v : aw_W), k45 x1 x4 w = some (y, v) → aw_AW l K MX12_years (d + 1) 45 [(0, .inr (.inr 49)), (1, .inl x1), (4, .inl x4)] [] w (some (.inl y), v)) : ∀ (n : Nat) (x1 x4 x5 : Int) (w : aw_W) (y : Int) (v : aw_W), m_years_54 N k45 n x1 x4 x5 w = some (y, v) → aw_AW l K MX12_years (d + 1) 54 [(0, .inr (.inr 49)), (1, .inl x1), (4, .inl x4), (5, .inl x5)] [] w (some (.inl y), v) := by
  intro n
  induction n with
  | zero => intro x1 x4 x5 w y v h; rw [m_years_54] at h; cases h
  | succ n ih =>
    intro x1 x4 x5 w y v h
    rw [m_years_54] at h
    refine aw_iload (pc := 54) (q := 3) dX12_years_54 rfl ?_
    refine aw_aload_n (pc := 56) (q := 0) dX12_years_56 rfl ?_
    refine aw_getf (pc := 57) (v := .inl (w 49 22)) dX12_years_57 fl_RX12_270 (by decide) rfl rfl rfl ?_
    refine aw_icmp_ge (pc := 60) (tgt := 110) dX12_years_60 (by decide) (fun hc => ?_) (fun hc => ?_)
    · rw [if_pos hc] at h
      exact aw_sel [0, 1, 2] rfl (w_m_years_110 N d hd  _ hk45 _ _ _ _ _ h)
    · rw [if_neg hc] at h
      refine aw_aload_n (pc := 63) (q := 0) dX12_years_63 rfl ?_
      refine aw_aload_n (pc := 64) (q := 0) dX12_years_64 rfl ?_
      refine aw_getf (pc := 65) (v := .inr (.inl (w 49 44))) dX12_years_65 fl_RX12_413 (by decide) rfl rfl rfl ?_
      refine aw_ldc2 (pc := 68) (x := 6364136223846793005) dX12_years_68 cl_RX12_417 ⟨by decide, by decide⟩ ?_
      refine aw_lmul (pc := 71) dX12_years_71 ?_
      refine aw_ldc2 (pc := 72) (x := 1442695040888963407) dX12_years_72 cl_RX12_419 ⟨by decide, by decide⟩ ?_
      refine aw_ladd (pc := 75) dX12_years_75 ?_
      refine aw_putl (pc := 76) dX12_years_76 fp_RX12_413 (by decide) rfl rfl ?_
      refine aw_aload_n (pc := 79) (q := 0) dX12_years_79 rfl ?_
      refine aw_getf (pc := 80) (v := .inr (.inr 64)) dX12_years_80 fl_RX12_72 (by decide) rfl rfl rfl ?_
      refine aw_iload (pc := 83) (q := 3) dX12_years_83 rfl ?_
      refine aw_aload_n (pc := 85) (q := 0) dX12_years_85 rfl ?_
      refine aw_getf (pc := 86) (v := .inr (.inl (aw_wl ((aw_wl ((w 49 44) * 6364136223846793005)) + 1442695040888963407)))) dX12_years_86 fl_RX12_413 (by decide) rfl rfl rfl ?_
      refine aw_bipush (pc := 89) dX12_years_89 (by decide) ⟨by decide, by decide⟩ ?_
      refine aw_lushr (pc := 91) dX12_years_91 ?_
      refine aw_aload_n (pc := 92) (q := 0) dX12_years_92 rfl ?_
      refine aw_getf (pc := 93) (v := .inr (.inr 56)) dX12_years_93 fl_RX12_43 (by decide) rfl rfl rfl ?_
      refine aw_iconst (pc := 96) dX12_years_96 ⟨by decide, by decide⟩ ?_
      refine aw_ialdv (pc := 97) (v := w 56 4) dX12_years_97 rfl (by decide) (by decide) rfl ?_
      refine aw_iconst (pc := 98) dX12_years_98 ⟨by decide, by decide⟩ ?_
      refine aw_iadd (pc := 99) dX12_years_99 ?_
      refine aw_i2l (pc := 100) dX12_years_100 ?_
      obtain ⟨hy, h⟩ := aw_cks h
      refine aw_lrem (pc := 101) dX12_years_101 hy ?_
      refine aw_l2i (pc := 102) dX12_years_102 ?_
      obtain ⟨hb, h⟩ := aw_cks h
      refine aw_iast (pc := 103) dX12_years_103 rfl hb.1 hb.2 ?_
      refine aw_iinc (pc := 104) (q := 3) (ls' := [(5, .inl (aw_w (x5 + 1))), (0, .inr (.inr 49)), (1, .inl x1), (4, .inl x4)]) dX12_years_104 rfl (by decide) rfl ?_
      refine aw_goto (pc := 107) (tgt := 54) dX12_years_107 (by decide) ?_
      exact aw_sel [1, 2, 3, 0] rfl (ih _ _ _ _ _ _ h)
def m_years_45 (N : Nat) : Nat → Int → Int → aw_W → Option (Int × aw_W)
  | 0, _, _, _ => none
  | n + 1, x1, x4, w =>
    if x1 ≤ x4 then
      m_years_139 N w
    else
      m_years_54 N (m_years_45 N n) N x1 x4 0 w
theorem w_m_years_45 {l : Launch} {K : aw_K} (N d : Nat) (hd : 0 ≤ d) : ∀ (n : Nat) (x1 x4 : Int) (w : aw_W) (y : Int) (v : aw_W), m_years_45 N n x1 x4 w = some (y, v) → aw_AW l K MX12_years (d + 1) 45 [(0, .inr (.inr 49)), (1, .inl x1), (4, .inl x4)] [] w (some (.inl y), v) := by
  intro n
  induction n with
  | zero => intro x1 x4 w y v h; rw [m_years_45] at h; cases h
  | succ n ih =>
    intro x1 x4 w y v h
    rw [m_years_45] at h
    refine aw_iload (pc := 45) (q := 2) dX12_years_45 rfl ?_
    refine aw_iload_n (pc := 47) (q := 1) dX12_years_47 rfl ?_
    refine aw_icmp_ge (pc := 48) (tgt := 139) dX12_years_48 (by decide) (fun hc => ?_) (fun hc => ?_)
    · rw [if_pos hc] at h
      exact aw_sel [0] rfl (w_m_years_139 N d hd  _ _ _ h)
    · rw [if_neg hc] at h
      refine aw_iconst (pc := 51) dX12_years_51 ⟨by decide, by decide⟩ ?_
      refine aw_istore (pc := 52) (ls' := [(5, .inl 0), (0, .inr (.inr 49)), (1, .inl x1), (4, .inl x4)]) dX12_years_52 (by decide) rfl ?_
      exact aw_sel [1, 2, 3, 0] rfl (w_m_years_54 N d hd  _ ih N _ _ _ _ _ _ h)
def m_years (N : Nat) (x1 x2 : Int) (w : aw_W) : Option (Int × aw_W) :=
  if (w 49 22) = 0 then
    m_years_35 N (aw_up w 49 0 0)
  else
    aw_b2 (m_isIn N x1 1 40 (aw_up w 49 0 0)) fun r1 w1 =>
      if r1 = 0 then
        m_years_35 N w1
      else
        if (aw_w ((w1 49 43) + x1)) ≤ 40 then
          m_years_45 N N x1 0 (aw_up w1 49 44 x2)
        else
          m_years_35 N w1
theorem w_m_years_d {l : Launch} {K : aw_K} (N d : Nat) (hd : 0 ≤ d) : ∀ (x1 x2 : Int) (w : aw_W) (y : Int) (v : aw_W), m_years N x1 x2 w = some (y, v) → aw_Met l K MX12_years (d + 1) [.inr (.inr 49), .inl x1, .inr (.inl x2)] w (some (.inl y), v) := by
  intro x1 x2 w y v h
  unfold m_years at h
  refine aw_enter rfl (Nat.le_of_ble_eq_true rfl) ?_
  show aw_AW l K MX12_years (d + 1) 0 [(0, .inr (.inr 49)), (1, .inl x1), (2, .inr (.inl x2))] [] w (some (.inl y), v)
  refine aw_aload_n (pc := 0) (q := 0) dX12_years_0 rfl ?_
  refine aw_iconst (pc := 1) dX12_years_1 ⟨by decide, by decide⟩ ?_
  refine aw_puti (pc := 2) dX12_years_2 fp_RX12_99 (by decide) rfl rfl ?_
  refine aw_aload_n (pc := 5) (q := 0) dX12_years_5 rfl ?_
  refine aw_getf (pc := 6) (v := .inl (w 49 22)) dX12_years_6 fl_RX12_270 (by decide) rfl rfl rfl ?_
  refine aw_if_eq (pc := 9) (tgt := 35) dX12_years_9 (by decide) (fun hc => ?_) (fun hc => ?_)
  · rw [if_pos hc] at h
    exact aw_sel [] rfl (w_m_years_35 N d hd  _ _ _ h)
  · rw [if_neg hc] at h
    refine aw_iload_n (pc := 12) (q := 1) dX12_years_12 rfl ?_
    refine aw_i2l (pc := 13) dX12_years_13 ?_
    refine aw_lconst (pc := 14) (x := 1) dX12_years_14 (by decide) ⟨by decide, by decide⟩ ?_
    refine aw_ldc2 (pc := 15) (x := 40) dX12_years_15 cl_RX12_411 ⟨by decide, by decide⟩ ?_
    obtain ⟨r1, w1, h1, h⟩ := aw_b2s h
    refine aw_callS (pc := 18) (as := [.inr (.inl x1), .inr (.inl 1), .inr (.inl 40)]) (st := []) (st' := [.inl r1]) dX12_years_18 cs_RX12_227 rfl rfl (Nat.le_of_ble_eq_true rfl) (w_m_isIn N d (by omega) _ _ _ _ _ _ h1) rfl ?_
    refine aw_if_eq (pc := 21) (tgt := 35) dX12_years_21 (by decide) (fun hc => ?_) (fun hc => ?_)
    · rw [if_pos hc] at h
      exact aw_sel [] rfl (w_m_years_35 N d hd  _ _ _ h)
    · rw [if_neg hc] at h
      refine aw_aload_n (pc := 24) (q := 0) dX12_years_24 rfl ?_
      refine aw_getf (pc := 25) (v := .inl (w1 49 43)) dX12_years_25 fl_RX12_273 (by decide) rfl rfl rfl ?_
      refine aw_iload_n (pc := 28) (q := 1) dX12_years_28 rfl ?_
      refine aw_iadd (pc := 29) dX12_years_29 ?_
      refine aw_bipush (pc := 30) dX12_years_30 (by decide) ⟨by decide, by decide⟩ ?_
      refine aw_icmp_le (pc := 32) (tgt := 37) dX12_years_32 (by decide) (fun hc => ?_) (fun hc => ?_)
      · rw [if_pos hc] at h
        refine aw_aload_n (pc := 37) (q := 0) dX12_years_37 rfl ?_
        refine aw_lload_n (pc := 38) (q := 2) dX12_years_38 rfl ?_
        refine aw_putl (pc := 39) dX12_years_39 fp_RX12_413 (by decide) rfl rfl ?_
        refine aw_iconst (pc := 42) dX12_years_42 ⟨by decide, by decide⟩ ?_
        refine aw_istore (pc := 43) (ls' := [(4, .inl 0), (0, .inr (.inr 49)), (1, .inl x1), (2, .inr (.inl x2))]) dX12_years_43 (by decide) rfl ?_
        exact aw_sel [1, 2, 0] rfl (w_m_years_45 N d hd  N _ _ _ _ _ h)
      · rw [if_neg hc] at h
        exact aw_sel [] rfl (w_m_years_35 N d hd  _ _ _ h)
theorem w_m_years {l : Launch} {K : aw_K} (N d : Nat) (hd : 1 ≤ d) : ∀ (x1 x2 : Int) (w : aw_W) (y : Int) (v : aw_W), m_years N x1 x2 w = some (y, v) → aw_Met l K MX12_years (d) [.inr (.inr 49), .inl x1, .inr (.inl x2)] w (some (.inl y), v) := by
  obtain ⟨e, rfl⟩ : ∃ e, d = e + 1 := ⟨d - 1, by omega⟩
  exact w_m_years_d N e (by omega)
