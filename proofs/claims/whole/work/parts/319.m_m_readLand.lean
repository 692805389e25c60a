theorem dX12_readLand_0 : decode cX12_readLand 0 = .ok (.aload_n 0, 1) := by decide +kernel
theorem dX12_readLand_1 : decode cX12_readLand 1 = .ok (.aload_n 0, 1) := by decide +kernel
theorem dX12_readLand_2 : decode cX12_readLand 2 = .ok (.getfield 9, 3) := by decide +kernel
theorem dX12_readLand_5 : decode cX12_readLand 5 = .ok (.iconst 0, 1) := by decide +kernel
theorem dX12_readLand_6 : decode cX12_readLand 6 = .ok (.aload_n 0, 1) := by decide +kernel
theorem dX12_readLand_7 : decode cX12_readLand 7 = .ok (.getfield 112, 3) := by decide +kernel
theorem dX12_readLand_10 : decode cX12_readLand 10 = .ok (.invokevirtual 210, 3) := by decide +kernel
theorem dX12_readLand_13 : decode cX12_readLand 13 = .ok (.aload_n 0, 1) := by decide +kernel
theorem dX12_readLand_14 : decode cX12_readLand 14 = .ok (.iconst 0, 1) := by decide +kernel
theorem dX12_readLand_15 : decode cX12_readLand 15 = .ok (.putfield 234, 3) := by decide +kernel
theorem dX12_readLand_18 : decode cX12_readLand 18 = .ok (.aload_n 0, 1) := by decide +kernel
theorem dX12_readLand_19 : decode cX12_readLand 19 = .ok (.iconst 0, 1) := by decide +kernel
theorem dX12_readLand_20 : decode cX12_readLand 20 = .ok (.putfield 231, 3) := by decide +kernel
theorem dX12_readLand_23 : decode cX12_readLand 23 = .ok (.iconst 0, 1) := by decide +kernel
theorem dX12_readLand_24 : decode cX12_readLand 24 = .ok (.istore_n 1, 1) := by decide +kernel
theorem dX12_readLand_25 : decode cX12_readLand 25 = .ok (.iload_n 1, 1) := by decide +kernel
theorem dX12_readLand_26 : decode cX12_readLand 26 = .ok (.iconst 5, 1) := by decide +kernel
theorem dX12_readLand_27 : decode cX12_readLand 27 = .ok (.if_icmp .ge 20, 3) := by decide +kernel
theorem dX12_readLand_30 : decode cX12_readLand 30 = .ok (.aload_n 0, 1) := by decide +kernel
theorem dX12_readLand_31 : decode cX12_readLand 31 = .ok (.getfield 46, 3) := by decide +kernel
theorem dX12_readLand_34 : decode cX12_readLand 34 = .ok (.iload_n 1, 1) := by decide +kernel
theorem dX12_readLand_35 : decode cX12_readLand 35 = .ok (.iconst 1, 1) := by decide +kernel
theorem dX12_readLand_36 : decode cX12_readLand 36 = .ok (.iload_n 1, 1) := by decide +kernel
theorem dX12_readLand_37 : decode cX12_readLand 37 = .ok (.invokestatic 241, 3) := by decide +kernel
theorem dX12_readLand_40 : decode cX12_readLand 40 = .ok (.iastore, 1) := by decide +kernel
theorem dX12_readLand_41 : decode cX12_readLand 41 = .ok (.iinc 1 1, 3) := by decide +kernel
theorem dX12_readLand_44 : decode cX12_readLand 44 = .ok (.goto (-19), 3) := by decide +kernel
theorem dX12_readLand_47 : decode cX12_readLand 47 = .ok (.iconst 1, 1) := by decide +kernel
theorem dX12_readLand_48 : decode cX12_readLand 48 = .ok (.istore_n 1, 1) := by decide +kernel
theorem dX12_readLand_49 : decode cX12_readLand 49 = .ok (.iload_n 1, 1) := by decide +kernel
theorem dX12_readLand_50 : decode cX12_readLand 50 = .ok (.ifCond .eq 55, 3) := by decide +kernel
theorem dX12_readLand_53 : decode cX12_readLand 53 = .ok (.aload_n 0, 1) := by decide +kernel
theorem dX12_readLand_54 : decode cX12_readLand 54 = .ok (.getfield 131, 3) := by decide +kernel
theorem dX12_readLand_57 : decode cX12_readLand 57 = .ok (.iconst (-1), 1) := by decide +kernel
theorem dX12_readLand_58 : decode cX12_readLand 58 = .ok (.if_icmp .ne 47, 3) := by decide +kernel
theorem dX12_readLand_61 : decode cX12_readLand 61 = .ok (.aload_n 0, 1) := by decide +kernel
theorem dX12_readLand_62 : decode cX12_readLand 62 = .ok (.invokevirtual 256, 3) := by decide +kernel
theorem dX12_readLand_65 : decode cX12_readLand 65 = .ok (.aload_n 0, 1) := by decide +kernel
theorem dX12_readLand_66 : decode cX12_readLand 66 = .ok (.getfield 131, 3) := by decide +kernel
theorem dX12_readLand_69 : decode cX12_readLand 69 = .ok (.iconst (-1), 1) := by decide +kernel
theorem dX12_readLand_70 : decode cX12_readLand 70 = .ok (.if_icmp .ne 16, 3) := by decide +kernel
theorem dX12_readLand_73 : decode cX12_readLand 73 = .ok (.aload_n 0, 1) := by decide +kernel
theorem dX12_readLand_74 : decode cX12_readLand 74 = .ok (.invokevirtual 141, 3) := by decide +kernel
theorem dX12_readLand_77 : decode cX12_readLand 77 = .ok (.bipush 59, 2) := by decide +kernel
theorem dX12_readLand_79 : decode cX12_readLand 79 = .ok (.if_icmp .ne 7, 3) := by decide +kernel
theorem dX12_readLand_82 : decode cX12_readLand 82 = .ok (.iconst 1, 1) := by decide +kernel
theorem dX12_readLand_83 : decode cX12_readLand 83 = .ok (.goto 4, 3) := by decide +kernel
theorem dX12_readLand_86 : decode cX12_readLand 86 = .ok (.iconst 0, 1) := by decide +kernel
theorem dX12_readLand_87 : decode cX12_readLand 87 = .ok (.istore_n 1, 1) := by decide +kernel
theorem dX12_readLand_88 : decode cX12_readLand 88 = .ok (.iload_n 1, 1) := by decide +kernel
theorem dX12_readLand_89 : decode cX12_readLand 89 = .ok (.ifCond .eq (-40), 3) := by decide +kernel
theorem dX12_readLand_92 : decode cX12_readLand 92 = .ok (.aload_n 0, 1) := by decide +kernel
theorem dX12_readLand_93 : decode cX12_readLand 93 = .ok (.dup, 1) := by decide +kernel
theorem dX12_readLand_94 : decode cX12_readLand 94 = .ok (.getfield 122, 3) := by decide +kernel
theorem dX12_readLand_97 : decode cX12_readLand 97 = .ok (.iconst 1, 1) := by decide +kernel
theorem dX12_readLand_98 : decode cX12_readLand 98 = .ok (.iadd, 1) := by decide +kernel
theorem dX12_readLand_99 : decode cX12_readLand 99 = .ok (.putfield 122, 3) := by decide +kernel
theorem dX12_readLand_102 : decode cX12_readLand 102 = .ok (.goto (-53), 3) := by decide +kernel
theorem dX12_readLand_105 : decode cX12_readLand 105 = .ok (.aload_n 0, 1) := by decide +kernel
theorem dX12_readLand_106 : decode cX12_readLand 106 = .ok (.getfield 131, 3) := by decide +kernel
theorem dX12_readLand_109 : decode cX12_readLand 109 = .ok (.iconst (-1), 1) := by decide +kernel
theorem dX12_readLand_110 : decode cX12_readLand 110 = .ok (.if_icmp .ne 24, 3) := by decide +kernel
theorem dX12_readLand_113 : decode cX12_readLand 113 = .ok (.aload_n 0, 1) := by decide +kernel
theorem dX12_readLand_114 : decode cX12_readLand 114 = .ok (.invokevirtual 141, 3) := by decide +kernel
theorem dX12_readLand_117 : decode cX12_readLand 117 = .ok (.iconst (-1), 1) := by decide +kernel
theorem dX12_readLand_118 : decode cX12_readLand 118 = .ok (.if_icmp .ne 11, 3) := by decide +kernel
theorem dX12_readLand_121 : decode cX12_readLand 121 = .ok (.aload_n 0, 1) := by decide +kernel
theorem dX12_readLand_122 : decode cX12_readLand 122 = .ok (.getfield 234, 3) := by decide +kernel
theorem dX12_readLand_125 : decode cX12_readLand 125 = .ok (.iconst 2, 1) := by decide +kernel
theorem dX12_readLand_126 : decode cX12_readLand 126 = .ok (.if_icmp .ge 8, 3) := by decide +kernel
theorem dX12_readLand_129 : decode cX12_readLand 129 = .ok (.aload_n 0, 1) := by decide +kernel
theorem dX12_readLand_130 : decode cX12_readLand 130 = .ok (.invokevirtual 137, 3) := by decide +kernel
theorem dX12_readLand_133 : decode cX12_readLand 133 = .ok (.pop, 1) := by decide +kernel
theorem dX12_readLand_134 : decode cX12_readLand 134 = .ok (.return_, 1) := by decide +kernel
def m_readLand_134 (N : Nat) (w : aw_W) : Option (aw_W) :=
  some w
theorem w_m_readLand_134 {l : Launch} {K : aw_K} (N d : Nat) (hd : 5 ≤ d) : ∀ (w v : aw_W), m_readLand_134 N w = some v → aw_AW l K MX12_readLand (d + 1) 134 [] [] w (none, v) := by
  intro w v h
  unfold m_readLand_134 at h
  cases h
  exact aw_vret (pc := 134) rfl dX12_readLand_134
def m_readLand_129 (N : Nat) (w : aw_W) : Option (aw_W) :=
  aw_b2 (m_fails N w) fun r1 w1 =>
    m_readLand_134 N w1
theorem w_m_readLand_129 {l : Launch} {K : aw_K} (N d : Nat) (hd : 5 ≤ d) : ∀ (w v : aw_W), m_readLand_129 N w = some v → aw_AW l K MX12_readLand (d + 1) 129 [(0, .inr (.inr 49))] [] w (none, v) := by
  intro w v h
  unfold m_readLand_129 at h
  refine aw_aload_n (pc := 129) (q := 0) dX12_readLand_129 rfl ?_
  obtain ⟨r1, w1, h1, h⟩ := aw_b2s h
  refine aw_callV (pc := 130) (as := []) (st := []) (st' := [.inl r1]) dX12_readLand_130 cv_RX12_137 (by decide) rfl rfl rfl rfl (Nat.le_of_ble_eq_true rfl) (w_m_fails N d (by omega) _ _ _ h1) rfl ?_
  refine aw_pop (pc := 133) dX12_readLand_133 rfl ?_
  exact aw_sel [] rfl (w_m_readLand_134 N d hd  _ _ h)
def m_readLand_105 (N : Nat) (w : aw_W) : Option (aw_W) :=
  if (w 49 11) = (-1) then
    aw_b2 (m_look N w) fun r1 w1 =>
      if r1 = (-1) then
        if 2 ≤ (w1 49 23) then
          m_readLand_134 N w1
        else
          m_readLand_129 N w1
      else
        m_readLand_129 N w1
  else
    m_readLand_134 N w
theorem w_m_readLand_105 {l : Launch} {K : aw_K} (N d : Nat) (hd : 5 ≤ d) : ∀ (w v : aw_W), m_readLand_105 N w = some v → aw_AW l K MX12_readLand (d + 1) 105 [(0, .inr (.inr 49))] [] w (none, v) := by
  intro w v h
  unfold m_readLand_105 at h
  refine aw_aload_n (pc := 105) (q := 0) dX12_readLand_105 rfl ?_
  refine aw_getf (pc := 106) (v := .inl (w 49 11)) dX12_readLand_106 fl_RX12_131 (by decide) rfl rfl rfl ?_
  refine aw_iconst (pc := 109) dX12_readLand_109 ⟨by decide, by decide⟩ ?_
  refine aw_icmp_ne (pc := 110) (tgt := 134) dX12_readLand_110 (by decide) (fun hc => ?_) (fun hc => ?_)
  · rw [if_neg hc] at h
    exact aw_sel [] rfl (w_m_readLand_134 N d hd  _ _ h)
  · rw [if_pos hc] at h
    refine aw_aload_n (pc := 113) (q := 0) dX12_readLand_113 rfl ?_
    obtain ⟨r1, w1, h1, h⟩ := aw_b2s h
    refine aw_callV (pc := 114) (as := []) (st := []) (st' := [.inl r1]) dX12_readLand_114 cv_RX12_141 (by decide) rfl rfl rfl rfl (Nat.le_of_ble_eq_true rfl) (w_m_look N d (by omega) _ _ _ h1) rfl ?_
    refine aw_iconst (pc := 117) dX12_readLand_117 ⟨by decide, by decide⟩ ?_
    refine aw_icmp_ne (pc := 118) (tgt := 129) dX12_readLand_118 (by decide) (fun hc => ?_) (fun hc => ?_)
    · rw [if_neg hc] at h
      exact aw_sel [0] rfl (w_m_readLand_129 N d hd  _ _ h)
    · rw [if_pos hc] at h
      refine aw_aload_n (pc := 121) (q := 0) dX12_readLand_121 rfl ?_
      refine aw_getf (pc := 122) (v := .inl (w1 49 23)) dX12_readLand_122 fl_RX12_234 (by decide) rfl rfl rfl ?_
      refine aw_iconst (pc := 125) dX12_readLand_125 ⟨by decide, by decide⟩ ?_
      refine aw_icmp_ge (pc := 126) (tgt := 134) dX12_readLand_126 (by decide) (fun hc => ?_) (fun hc => ?_)
      · rw [if_pos hc] at h
        exact aw_sel [] rfl (w_m_readLand_134 N d hd  _ _ h)
      · rw [if_neg hc] at h
        exact aw_sel [0] rfl (w_m_readLand_129 N d hd  _ _ h)
def m_readLand_87 (N : Nat) (k49 : Int → aw_W → Option (aw_W)) (s0 : Int) (w : aw_W) : Option (aw_W) :=
  if s0 = 0 then
    k49 s0 w
  else
    k49 s0 (aw_up w 49 10 (aw_w ((w 49 10) + 1)))
theorem w_m_readLand_87 {l : Launch} {K : aw_K} (N d : Nat) (hd : 5 ≤ d) (k49 : Int → aw_W → Option (aw_W)) (hk49 : ∀ (x1 : Int) (w v : aw_W), k49 x1 w = some v → aw_AW l K MX12_readLand (d + 1) 49 [(0, .inr (.inr 49)), (1, .inl x1)] [] w (none, v)) : ∀ (s0 : Int) (w v : aw_W), m_readLand_87 N k49 s0 w = some v → aw_AW l K MX12_readLand (d + 1) 87 [(0, .inr (.inr 49))] [.inl s0] w (none, v) := by
  intro s0 w v h
  unfold m_readLand_87 at h
  refine aw_istore_n (pc := 87) (ls' := [(1, .inl s0), (0, .inr (.inr 49))]) dX12_readLand_87 (by decide) rfl ?_
  refine aw_iload_n (pc := 88) (q := 0) dX12_readLand_88 rfl ?_
  refine aw_if_eq (pc := 89) (tgt := 49) dX12_readLand_89 (by decide) (fun hc => ?_) (fun hc => ?_)
  · rw [if_pos hc] at h
    exact aw_sel [1, 0] rfl (hk49 _ _ _ h)
  · rw [if_neg hc] at h
    refine aw_aload_n (pc := 92) (q := 1) dX12_readLand_92 rfl ?_
    refine aw_dup (pc := 93) dX12_readLand_93 rfl ?_
    refine aw_getf (pc := 94) (v := .inl (w 49 10)) dX12_readLand_94 fl_RX12_122 (by decide) rfl rfl rfl ?_
    refine aw_iconst (pc := 97) dX12_readLand_97 ⟨by decide, by decide⟩ ?_
    refine aw_iadd (pc := 98) dX12_readLand_98 ?_
    refine aw_puti (pc := 99) dX12_readLand_99 fp_RX12_122 (by decide) rfl rfl ?_
    refine aw_goto (pc := 102) (tgt := 49) dX12_readLand_102 (by decide) ?_
    exact aw_sel [1, 0] rfl (hk49 _ _ _ h)
def m_readLand_86 (N : Nat) (k49 : Int → aw_W → Option (aw_W)) (w : aw_W) : Option (aw_W) :=
  m_readLand_87 N k49 0 w
theorem w_m_readLand_86 {l : Launch} {K : aw_K} (N d : Nat) (hd : 5 ≤ d) (k49 : Int → aw_W → Option (aw_W)) (hk49 : ∀ (x1 : Int) (w v : aw_W), k49 x1 w = some v → aw_AW l K MX12_readLand (d + 1) 49 [(0, .inr (.inr 49)), (1, .inl x1)] [] w (none, v)) : ∀ (w v : aw_W), m_readLand_86 N k49 w = some v → aw_AW l K MX12_readLand (d + 1) 86 [(0, .inr (.inr 49))] [] w (none, v) := by
  intro w v h
  unfold m_readLand_86 at h
  refine aw_iconst (pc := 86) dX12_readLand_86 ⟨by decide, by decide⟩ ?_
  exact aw_sel [0] rfl (w_m_readLand_87 N d hd  _ hk49 _ _ _ h)
def m_readLand_49 (N : Nat) : Nat → Int → aw_W → Option (aw_W)
  | 0, _, _ => none
  | n + 1, x1, w =>
    if x1 = 0 then
      m_readLand_105 N w
    else
      if (w 49 11) = (-1) then
        aw_b1 (m_readClause N w) fun w1 =>
          if (w1 49 11) = (-1) then
            aw_b2 (m_look N w1) fun r2 w2 =>
              if r2 = 59 then
                m_readLand_87 N (m_readLand_49 N n) 1 w2
              else
                m_readLand_86 N (m_readLand_49 N n) w2
          else
            m_readLand_86 N (m_readLand_49 N n) w1
      else
        m_readLand_105 N w
theorem w_m_readLand_49 {l : Launch} {K : aw_K} (N d : Nat) (hd : 5 ≤ d) : ∀ (n : Nat) (x1 : Int) (w v : aw_W), m_readLand_49 N n x1 w = some v → aw_AW l K MX12_readLand (d + 1) 49 [(0, .inr (.inr 49)), (1, .inl x1)] [] w (none, v) := by
  intro n
  induction n with
  | zero => intro x1 w v h; rw [m_readLand_49] at h; cases h
  | succ n ih =>
    intro x1 w v h
    rw [m_readLand_49] at h
    refine aw_iload_n (pc := 49) (q := 1) dX12_readLand_49 rfl ?_
    refine aw_if_eq (pc := 50) (tgt := 105) dX12_readLand_50 (by decide) (fun hc => ?_) (fun hc => ?_)
    · rw [if_pos hc] at h
      exact aw_sel [0] rfl (w_m_readLand_105 N d hd  _ _ h)
    · rw [if_neg hc] at h
      refine aw_aload_n (pc := 53) (q := 0) dX12_readLand_53 rfl ?_
      refine aw_getf (pc := 54) (v := .inl (w 49 11)) dX12_readLand_54 fl_RX12_131 (by decide) rfl rfl rfl ?_
      refine aw_iconst (pc := 57) dX12_readLand_57 ⟨by decide, by decide⟩ ?_
      refine aw_icmp_ne (pc := 58) (tgt := 105) dX12_readLand_58 (by decide) (fun hc => ?_) (fun hc => ?_)
      · rw [if_neg hc] at h
        exact aw_sel [0] rfl (w_m_readLand_105 N d hd  _ _ h)
      · rw [if_pos hc] at h
        refine aw_aload_n (pc := 61) (q := 0) dX12_readLand_61 rfl ?_
        obtain ⟨w1, h1, h⟩ := aw_b1s h
        refine aw_callV (pc := 62) (as := []) (st := []) (st' := []) dX12_readLand_62 cv_RX12_256 (by decide) rfl rfl rfl rfl (Nat.le_of_ble_eq_true rfl) (w_m_readClause N d (by omega) _ _ h1) rfl ?_
        refine aw_aload_n (pc := 65) (q := 0) dX12_readLand_65 rfl ?_
        refine aw_getf (pc := 66) (v := .inl (w1 49 11)) dX12_readLand_66 fl_RX12_131 (by decide) rfl rfl rfl ?_
        refine aw_iconst (pc := 69) dX12_readLand_69 ⟨by decide, by decide⟩ ?_
        refine aw_icmp_ne (pc := 70) (tgt := 86) dX12_readLand_70 (by decide) (fun hc => ?_) (fun hc => ?_)
        · rw [if_neg hc] at h
          exact aw_sel [0] rfl (w_m_readLand_86 N d hd  _ ih _ _ h)
        · rw [if_pos hc] at h
          refine aw_aload_n (pc := 73) (q := 0) dX12_readLand_73 rfl ?_
          obtain ⟨r2, w2, h2, h⟩ := aw_b2s h
          refine aw_callV (pc := 74) (as := []) (st := []) (st' := [.inl r2]) dX12_readLand_74 cv_RX12_141 (by decide) rfl rfl rfl rfl (Nat.le_of_ble_eq_true rfl) (w_m_look N d (by omega) _ _ _ h2) rfl ?_
          refine aw_bipush (pc := 77) dX12_readLand_77 (by decide) ⟨by decide, by decide⟩ ?_
          refine aw_icmp_ne (pc := 79) (tgt := 86) dX12_readLand_79 (by decide) (fun hc => ?_) (fun hc => ?_)
          · rw [if_neg hc] at h
            exact aw_sel [0] rfl (w_m_readLand_86 N d hd  _ ih _ _ h)
          · rw [if_pos hc] at h
            refine aw_iconst (pc := 82) dX12_readLand_82 ⟨by decide, by decide⟩ ?_
            refine aw_goto (pc := 83) (tgt := 87) dX12_readLand_83 (by decide) ?_
            exact aw_sel [0] rfl (w_m_readLand_87 N d hd  _ ih _ _ _ h)
def m_readLand_47 (N : Nat) (w : aw_W) : Option (aw_W) :=
  m_readLand_49 N N 1 w
theorem w_m_readLand_47 {l : Launch} {K : aw_K} (N d : Nat) (hd : 5 ≤ d) : ∀ (w v : aw_W), m_readLand_47 N w = some v → aw_AW l K MX12_readLand (d + 1) 47 [(0, .inr (.inr 49))] [] w (none, v) := by
  intro w v h
  unfold m_readLand_47 at h
  refine aw_iconst (pc := 47) dX12_readLand_47 ⟨by decide, by decide⟩ ?_
  refine aw_istore_n (pc := 48) (ls' := [(1, .inl 1), (0, .inr (.inr 49))]) dX12_readLand_48 (by decide) rfl ?_
  exact aw_sel [1, 0] rfl (w_m_readLand_49 N d hd  N _ _ _ h)
def m_readLand_25 (N : Nat) : Nat → Int → aw_W → Option (aw_W)
  | 0, _, _ => none
  | n + 1, x1, w =>
    if 5 ≤ x1 then
      m_readLand_47 N w
    else
      aw_b2 (m_usual N 1 x1 w) fun r1 w1 =>
        if 0 ≤ x1 ∧ x1 < 5 then
          m_readLand_25 N n (aw_w (x1 + 1)) (aw_up w1 57 x1.toNat r1)
        else none
theorem w_m_readLand_25 {l : Launch} {K : aw_K} (N d : Nat) (hd : 5 ≤ d) : ∀ (n : Nat) (x1 : Int) (w v : aw_W), m_readLand_25 N n x1 w = some v → aw_AW l K MX12_readLand (d + 1) 25 [(0, .inr (.inr 49)), (1, .inl x1)] [] w (none, v) := by
  intro n
  induction n with
  | zero => intro x1 w v h; rw [m_readLand_25] at h; cases h
  | succ n ih =>
    intro x1 w v h
    rw [m_readLand_25] at h
    refine aw_iload_n (pc := 25) (q := 1) dX12_readLand_25 rfl ?_
    refine aw_iconst (pc := 26) dX12_readLand_26 ⟨by decide, by decide⟩ ?_
    refine aw_icmp_ge (pc := 27) (tgt := 47) dX12_readLand_27 (by decide) (fun hc => ?_) (fun hc => ?_)
    · rw [if_pos hc] at h
      exact aw_sel [0] rfl (w_m_readLand_47 N d hd  _ _ h)
    · rw [if_neg hc] at h
      refine aw_aload_n (pc := 30) (q := 0) dX12_readLand_30 rfl ?_
      refine aw_getf (pc := 31) (v := .inr (.inr 57)) dX12_readLand_31 fl_RX12_46 (by decide) rfl rfl rfl ?_
      refine aw_iload_n (pc := 34) (q := 1) dX12_readLand_34 rfl ?_
      refine aw_iconst (pc := 35) dX12_readLand_35 ⟨by decide, by decide⟩ ?_
      refine aw_iload_n (pc := 36) (q := 1) dX12_readLand_36 rfl ?_
      obtain ⟨r1, w1, h1, h⟩ := aw_b2s h
      refine aw_callS (pc := 37) (as := [.inl 1, .inl x1]) (st := [.inl x1, .inr (.inr 57)]) (st' := [.inl r1, .inl x1, .inr (.inr 57)]) dX12_readLand_37 cs_RX12_241 rfl rfl (Nat.le_of_ble_eq_true rfl) (w_m_usual N d (by omega) _ _ _ _ _ h1) rfl ?_
      obtain ⟨hb, h⟩ := aw_cks h
      refine aw_iast (pc := 40) dX12_readLand_40 rfl hb.1 hb.2 ?_
      refine aw_iinc (pc := 41) (q := 1) (ls' := [(1, .inl (aw_w (x1 + 1))), (0, .inr (.inr 49))]) dX12_readLand_41 rfl (by decide) rfl ?_
      refine aw_goto (pc := 44) (tgt := 25) dX12_readLand_44 (by decide) ?_
      exact aw_sel [1, 0] rfl (ih _ _ _ h)
def m_readLand (N : Nat) (w : aw_W) : Option (aw_W) :=
  aw_b1 (m_opens_49_50 N 0 (w 49 6) w) fun w1 =>
    m_readLand_25 N N 0 (aw_up (aw_up w1 49 23 0) 49 24 0)
theorem w_m_readLand_d {l : Launch} {K : aw_K} (N d : Nat) (hd : 5 ≤ d) : ∀ (w v : aw_W), m_readLand N w = some v → aw_Met l K MX12_readLand (d + 1) [.inr (.inr 49)] w (none, v) := by
  intro w v h
  unfold m_readLand at h
  refine aw_enter rfl (Nat.le_of_ble_eq_true rfl) ?_
  show aw_AW l K MX12_readLand (d + 1) 0 [(0, .inr (.inr 49))] [] w (none, v)
  refine aw_aload_n (pc := 0) (q := 0) dX12_readLand_0 rfl ?_
  refine aw_aload_n (pc := 1) (q := 0) dX12_readLand_1 rfl ?_
  refine aw_getf (pc := 2) (v := .inr (.inr 50)) dX12_readLand_2 fl_RX12_9 (by decide) rfl rfl rfl ?_
  refine aw_iconst (pc := 5) dX12_readLand_5 ⟨by decide, by decide⟩ ?_
  refine aw_aload_n (pc := 6) (q := 0) dX12_readLand_6 rfl ?_
  refine aw_getf (pc := 7) (v := .inl (w 49 6)) dX12_readLand_7 fl_RX12_112 (by decide) rfl rfl rfl ?_
  obtain ⟨w1, h1, h⟩ := aw_b1s h
  refine aw_callV (pc := 10) (as := [.inr (.inr 50), .inl 0, .inl (w 49 6)]) (st := []) (st' := []) dX12_readLand_10 cv_RX12_210 (by decide) rfl rfl rfl rfl (Nat.le_of_ble_eq_true rfl) (w_m_opens_49_50 N d (by omega) _ _ _ _ h1) rfl ?_
  refine aw_aload_n (pc := 13) (q := 0) dX12_readLand_13 rfl ?_
  refine aw_iconst (pc := 14) dX12_readLand_14 ⟨by decide, by decide⟩ ?_
  refine aw_puti (pc := 15) dX12_readLand_15 fp_RX12_234 (by decide) rfl rfl ?_
  refine aw_aload_n (pc := 18) (q := 0) dX12_readLand_18 rfl ?_
  refine aw_iconst (pc := 19) dX12_readLand_19 ⟨by decide, by decide⟩ ?_
  refine aw_putz (pc := 20) dX12_readLand_20 fp_RX12_231 (by decide) rfl rfl (by decide) ?_
  refine aw_iconst (pc := 23) dX12_readLand_23 ⟨by decide, by decide⟩ ?_
  refine aw_istore_n (pc := 24) (ls' := [(1, .inl 0), (0, .inr (.inr 49))]) dX12_readLand_24 (by decide) rfl ?_
  exact aw_sel [1, 0] rfl (w_m_readLand_25 N d hd  N _ _ _ h)
theorem w_m_readLand {l : Launch} {K : aw_K} (N d : Nat) (hd : 6 ≤ d) : ∀ (w v : aw_W), m_readLand N w = some v → aw_Met l K MX12_readLand (d) [.inr (.inr 49)] w (none, v) := by
  obtain ⟨e, rfl⟩ : ∃ e, d = e + 1 := ⟨d - 1, by omega⟩
  exact w_m_readLand_d N e (by omega)
theorem dX12_fault_0 : decode cX12_fault 0 = .ok (.aload_n 0, 1) := by decide +kernel
theorem dX12_fault_1 : decode cX12_fault 1 = .ok (.iconst 0, 1) := by decide +kernel
theorem dX12_fault_2 : decode cX12_fault 2 = .ok (.putfield 99, 3) := by decide +kernel
theorem dX12_fault_5 : decode cX12_fault 5 = .ok (.iload_n 1, 1) := by decide +kernel
theorem dX12_fault_6 : decode cX12_fault 6 = .ok (.i2l, 1) := by decide +kernel
theorem dX12_fault_7 : decode cX12_fault 7 = .ok (.lconst 0, 1) := by decide +kernel
theorem dX12_fault_8 : decode cX12_fault 8 = .ok (.lconst 1, 1) := by decide +kernel
theorem dX12_fault_9 : decode cX12_fault 9 = .ok (.invokestatic 227, 3) := by decide +kernel
theorem dX12_fault_12 : decode cX12_fault 12 = .ok (.ifCond .ne 6, 3) := by decide +kernel
theorem dX12_fault_15 : decode cX12_fault 15 = .ok (.bipush (-2), 2) := by decide +kernel
theorem dX12_fault_17 : decode cX12_fault 17 = .ok (.ireturn, 1) := by decide +kernel
theorem dX12_fault_18 : decode cX12_fault 18 = .ok (.iload_n 1, 1) := by decide +kernel
theorem dX12_fault_19 : decode cX12_fault 19 = .ok (.ifCond .ne 10, 3) := by decide +kernel
theorem dX12_fault_22 : decode cX12_fault 22 = .ok (.aload_n 0, 1) := by decide +kernel
theorem dX12_fault_23 : decode cX12_fault 23 = .ok (.invokevirtual 259, 3) := by decide +kernel
theorem dX12_fault_26 : decode cX12_fault 26 = .ok (.goto 16, 3) := by decide +kernel
theorem dX12_fault_29 : decode cX12_fault 29 = .ok (.aload_n 0, 1) := by decide +kernel
theorem dX12_fault_30 : decode cX12_fault 30 = .ok (.aload_n 0, 1) := by decide +kernel
theorem dX12_fault_31 : decode cX12_fault 31 = .ok (.getfield 9, 3) := by decide +kernel
theorem dX12_fault_34 : decode cX12_fault 34 = .ok (.iconst 0, 1) := by decide +kernel
theorem dX12_fault_35 : decode cX12_fault 35 = .ok (.aload_n 0, 1) := by decide +kernel
theorem dX12_fault_36 : decode cX12_fault 36 = .ok (.getfield 112, 3) := by decide +kernel
theorem dX12_fault_39 : decode cX12_fault 39 = .ok (.invokevirtual 262, 3) := by decide +kernel
theorem dX12_fault_42 : decode cX12_fault 42 = .ok (.aload_n 0, 1) := by decide +kernel
theorem dX12_fault_43 : decode cX12_fault 43 = .ok (.getfield 131, 3) := by decide +kernel
theorem dX12_fault_46 : decode cX12_fault 46 = .ok (.ireturn, 1) := by decide +kernel
def m_fault_42 (N : Nat) (w : aw_W) : Option (Int × aw_W) :=
  some (w 49 11, w)
theorem w_m_fault_42 {l : Launch} {K : aw_K} (N d : Nat) (hd : 127 ≤ d) : ∀ (w : aw_W) (y : Int) (v : aw_W), m_fault_42 N w = some (y, v) → aw_AW l K MX12_fault (d + 1) 42 [(0, .inr (.inr 49))] [] w (some (.inl y), v) := by
  intro w y v h
  unfold m_fault_42 at h
  refine aw_aload_n (pc := 42) (q := 0) dX12_fault_42 rfl ?_
  refine aw_getf (pc := 43) (v := .inl (w 49 11)) dX12_fault_43 fl_RX12_131 (by decide) rfl rfl rfl ?_
  cases h
  exact aw_iret (pc := 46) rfl dX12_fault_46
def m_fault (N : Nat) (x1 : Int) (w : aw_W) : Option (Int × aw_W) :=
  aw_b2 (m_isIn N x1 0 1 (aw_up w 49 0 0)) fun r1 w1 =>
    if r1 = 0 then
      some ((-2), w1)
    else
      if x1 = 0 then
        aw_b1 (m_readLand N w1) fun w3 =>
          m_fault_42 N w3
      else
        aw_b1 (m_goThrough_49_50 N 0 (w1 49 6) w1) fun w2 =>
          m_fault_42 N w2
theorem w_m_fault_d {l : Launch} {K : aw_K} (N d : Nat) (hd : 127 ≤ d) : ∀ (x1 : Int) (w : aw_W) (y : Int) (v : aw_W), m_fault N x1 w = some (y, v) → aw_Met l K MX12_fault (d + 1) [.inr (.inr 49), .inl x1] w (some (.inl y), v) := by
  intro x1 w y v h
  unfold m_fault at h
  refine aw_enter rfl (Nat.le_of_ble_eq_true rfl) ?_
  show aw_AW l K MX12_fault (d + 1) 0 [(0, .inr (.inr 49)), (1, .inl x1)] [] w (some (.inl y), v)
  refine aw_aload_n (pc := 0) (q := 0) dX12_fault_0 rfl ?_
  refine aw_iconst (pc := 1) dX12_fault_1 ⟨by decide, by decide⟩ ?_
  refine aw_puti (pc := 2) dX12_fault_2 fp_RX12_99 (by decide) rfl rfl ?_
  refine aw_iload_n (pc := 5) (q := 1) dX12_fault_5 rfl ?_
  refine aw_i2l (pc := 6) dX12_fault_6 ?_
  refine aw_lconst (pc := 7) (x := 0) dX12_fault_7 (by decide) ⟨by decide, by decide⟩ ?_
  refine aw_lconst (pc := 8) (x := 1) dX12_fault_8 (by decide) ⟨by decide, by decide⟩ ?_
  obtain ⟨r1, w1, h1, h⟩ := aw_b2s h
  refine aw_callS (pc := 9) (as := [.inr (.inl x1), .inr (.inl 0), .inr (.inl 1)]) (st := []) (st' := [.inl r1]) dX12_fault_9 cs_RX12_227 rfl rfl (Nat.le_of_ble_eq_true rfl) (w_m_isIn N d (by omega) _ _ _ _ _ _ h1) rfl ?_
  refine aw_if_ne (pc := 12) (tgt := 18) dX12_fault_12 (by decide) (fun hc => ?_) (fun hc => ?_)
  · rw [if_neg hc] at h
    refine aw_iload_n (pc := 18) (q := 1) dX12_fault_18 rfl ?_
    refine aw_if_ne (pc := 19) (tgt := 29) dX12_fault_19 (by decide) (fun hc => ?_) (fun hc => ?_)
    · rw [if_neg hc] at h
      refine aw_aload_n (pc := 29) (q := 0) dX12_fault_29 rfl ?_
      refine aw_aload_n (pc := 30) (q := 0) dX12_fault_30 rfl ?_
      refine aw_getf (pc := 31) (v := .inr (.inr 50)) dX12_fault_31 fl_RX12_9 (by decide) rfl rfl rfl ?_
      refine aw_iconst (pc := 34) dX12_fault_34 ⟨by decide, by decide⟩ ?_
      refine aw_aload_n (pc := 35) (q := 0) dX12_fault_35 rfl ?_
      refine aw_getf (pc := 36) (v := .inl (w1 49 6)) dX12_fault_36 fl_RX12_112 (by decide) rfl rfl rfl ?_
      obtain ⟨w2, h2, h⟩ := aw_b1s h
      refine aw_callV (pc := 39) (as := [.inr (.inr 50), .inl 0, .inl (w1 49 6)]) (st := []) (st' := []) dX12_fault_39 cv_RX12_262 (by decide) rfl rfl rfl rfl (Nat.le_of_ble_eq_true rfl) (w_m_goThrough_49_50 N d (by omega) _ _ _ _ h2) rfl ?_
      exact aw_sel [0] rfl (w_m_fault_42 N d hd  _ _ _ h)
    · rw [if_pos hc] at h
      refine aw_aload_n (pc := 22) (q := 0) dX12_fault_22 rfl ?_
      obtain ⟨w3, h3, h⟩ := aw_b1s h
      refine aw_callV (pc := 23) (as := []) (st := []) (st' := []) dX12_fault_23 cv_RX12_259 (by decide) rfl rfl rfl rfl (Nat.le_of_ble_eq_true rfl) (w_m_readLand N d (by omega) _ _ h3) rfl ?_
      refine aw_goto (pc := 26) (tgt := 42) dX12_fault_26 (by decide) ?_
      exact aw_sel [0] rfl (w_m_fault_42 N d hd  _ _ _ h)
  · rw [if_pos hc] at h
    refine aw_bipush (pc := 15) dX12_fault_15 (by decide) ⟨by decide, by decide⟩ ?_
    cases h
    exact aw_iret (pc := 17) rfl dX12_fault_17
theorem w_m_fault {l : Launch} {K : aw_K} (N d : Nat) (hd : 128 ≤ d) : ∀ (x1 : Int) (w : aw_W) (y : Int) (v : aw_W), m_fault N x1 w = some (y, v) → aw_Met l K MX12_fault (d) [.inr (.inr 49), .inl x1] w (some (.inl y), v) := by
  obtain ⟨e, rfl⟩ : ∃ e, d = e + 1 := ⟨d - 1, by omega⟩
  exact w_m_fault_d N e (by omega)
theorem dX12_bytesIn_0 : decode cX12_bytesIn 0 = .ok (.iconst 0, 1) := by decide +kernel
theorem dX12_bytesIn_1 : decode cX12_bytesIn 1 = .ok (.istore_n 1, 1) := by decide +kernel
theorem dX12_bytesIn_2 : decode cX12_bytesIn 2 = .ok (.bipush 24, 2) := by decide +kernel
theorem dX12_bytesIn_4 : decode cX12_bytesIn 4 = .ok (.istore_n 2, 1) := by decide +kernel
theorem dX12_bytesIn_5 : decode cX12_bytesIn 5 = .ok (.iload_n 2, 1) := by decide +kernel
theorem dX12_bytesIn_6 : decode cX12_bytesIn 6 = .ok (.ifCond .lt 27, 3) := by decide +kernel
theorem dX12_bytesIn_9 : decode cX12_bytesIn 9 = .ok (.iload_n 1, 1) := by decide +kernel
theorem dX12_bytesIn_10 : decode cX12_bytesIn 10 = .ok (.iload_n 0, 1) := by decide +kernel
theorem dX12_bytesIn_11 : decode cX12_bytesIn 11 = .ok (.iload_n 2, 1) := by decide +kernel
theorem dX12_bytesIn_12 : decode cX12_bytesIn 12 = .ok (.ishr, 1) := by decide +kernel
theorem dX12_bytesIn_13 : decode cX12_bytesIn 13 = .ok (.sipush 255, 3) := by decide +kernel
theorem dX12_bytesIn_16 : decode cX12_bytesIn 16 = .ok (.iand, 1) := by decide +kernel
theorem dX12_bytesIn_17 : decode cX12_bytesIn 17 = .ok (.ifCond .eq 7, 3) := by decide +kernel
theorem dX12_bytesIn_20 : decode cX12_bytesIn 20 = .ok (.iconst 1, 1) := by decide +kernel
theorem dX12_bytesIn_21 : decode cX12_bytesIn 21 = .ok (.goto 4, 3) := by decide +kernel
theorem dX12_bytesIn_24 : decode cX12_bytesIn 24 = .ok (.iconst 0, 1) := by decide +kernel
theorem dX12_bytesIn_25 : decode cX12_bytesIn 25 = .ok (.iadd, 1) := by decide +kernel
theorem dX12_bytesIn_26 : decode cX12_bytesIn 26 = .ok (.istore_n 1, 1) := by decide +kernel
theorem dX12_bytesIn_27 : decode cX12_bytesIn 27 = .ok (.iinc 2 (-8), 3) := by decide +kernel
theorem dX12_bytesIn_30 : decode cX12_bytesIn 30 = .ok (.goto (-25), 3) := by decide +kernel
theorem dX12_bytesIn_33 : decode cX12_bytesIn 33 = .ok (.iload_n 1, 1) := by decide +kernel
theorem dX12_bytesIn_34 : decode cX12_bytesIn 34 = .ok (.ireturn, 1) := by decide +kernel
def m_bytesIn_33 (N : Nat) (x1 : Int) (w : aw_W) : Option (Int × aw_W) :=
  some (x1, w)
theorem w_m_bytesIn_33 {l : Launch} {K : aw_K} (N d : Nat) : ∀ (x1 : Int) (w : aw_W) (y : Int) (v : aw_W), m_bytesIn_33 N x1 w = some (y, v) → aw_AW l K MX12_bytesIn (d) 33 [(1, .inl x1)] [] w (some (.inl y), v) := by
  intro x1 w y v h
  unfold m_bytesIn_33 at h
  refine aw_iload_n (pc := 33) (q := 0) dX12_bytesIn_33 rfl ?_
  cases h
  exact aw_iret (pc := 34) rfl dX12_bytesIn_34
def m_bytesIn_25 (N : Nat) (k5 : Int → Int → Int → aw_W → Option (Int × aw_W)) (x0 x2 s0 s1 : Int) (w : aw_W) : Option (Int × aw_W) :=
  k5 x0 (aw_w (s1 + s0)) (aw_w (x2 + (-8))) w
theorem w_m_bytesIn_25 {l : Launch} {K : aw_K} (N d : Nat) (k5 : Int → Int → Int → aw_W → Option (Int × aw_W)) (hk5 : ∀ (x0 x1 x2 : Int) (w : aw_W) (y : Int) (v : aw_W), k5 x0 x1 x2 w = some (y, v) → aw_AW l K MX12_bytesIn (d) 5 [(0, .inl x0), (1, .inl x1), (2, .inl x2)] [] w (some (.inl y), v)) : ∀ (x0 x2 s0 s1 : Int) (w : aw_W) (y : Int) (v : aw_W), m_bytesIn_25 N k5 x0 x2 s0 s1 w = some (y, v) → aw_AW l K MX12_bytesIn (d) 25 [(0, .inl x0), (2, .inl x2)] [.inl s0, .inl s1] w (some (.inl y), v) := by
  intro x0 x2 s0 s1 w y v h
  unfold m_bytesIn_25 at h
  refine aw_iadd (pc := 25) dX12_bytesIn_25 ?_
  refine aw_istore_n (pc := 26) (ls' := [(1, .inl (aw_w (s1 + s0))), (0, .inl x0), (2, .inl x2)]) dX12_bytesIn_26 (by decide) rfl ?_
  refine aw_iinc (pc := 27) (q := 2) (ls' := [(2, .inl (aw_w (x2 + (-8)))), (1, .inl (aw_w (s1 + s0))), (0, .inl x0)]) dX12_bytesIn_27 rfl (by decide) rfl ?_
  refine aw_goto (pc := 30) (tgt := 5) dX12_bytesIn_30 (by decide) ?_
  exact aw_sel [2, 1, 0] rfl (hk5 _ _ _ _ _ _ h)
def m_bytesIn_5 (N : Nat) : Nat → Int → Int → Int → aw_W → Option (Int × aw_W)
  | 0, _, _, _, _ => none
  | n + 1, x0, x1, x2, w =>
    if x2 < 0 then
      m_bytesIn_33 N x1 w
    else
      if (aw_and (aw_shr x0 x2) 255) = 0 then
        m_bytesIn_25 N (m_bytesIn_5 N n) x0 x2 0 x1 w
      else
        m_bytesIn_25 N (m_bytesIn_5 N n) x0 x2 1 x1 w
theorem w_m_bytesIn_5 {l : Launch} {K : aw_K} (N d : Nat) : ∀ (n : Nat) (x0 x1 x2 : Int) (w : aw_W) (y : Int) (v : aw_W), m_bytesIn_5 N n x0 x1 x2 w = some (y, v) → aw_AW l K MX12_bytesIn (d) 5 [(0, .inl x0), (1, .inl x1), (2, .inl x2)] [] w (some (.inl y), v) := by
  intro n
  induction n with
  | zero => intro x0 x1 x2 w y v h; rw [m_bytesIn_5] at h; cases h
  | succ n ih =>
    intro x0 x1 x2 w y v h
    rw [m_bytesIn_5] at h
    refine aw_iload_n (pc := 5) (q := 2) dX12_bytesIn_5 rfl ?_
    refine aw_if_lt (pc := 6) (tgt := 33) dX12_bytesIn_6 (by decide) (fun hc => ?_) (fun hc => ?_)
    · rw [if_pos hc] at h
      exact aw_sel [1] rfl (w_m_bytesIn_33 N d  _ _ _ _ h)
    · rw [if_neg hc] at h
      refine aw_iload_n (pc := 9) (q := 1) dX12_bytesIn_9 rfl ?_
      refine aw_iload_n (pc := 10) (q := 0) dX12_bytesIn_10 rfl ?_
      refine aw_iload_n (pc := 11) (q := 2) dX12_bytesIn_11 rfl ?_
      refine aw_ishr (pc := 12) dX12_bytesIn_12 ?_
      refine aw_sipush (pc := 13) dX12_bytesIn_13 (by decide) ⟨by decide, by decide⟩ ?_
      refine aw_iand (pc := 16) dX12_bytesIn_16 ?_
      refine aw_if_eq (pc := 17) (tgt := 24) dX12_bytesIn_17 (by decide) (fun hc => ?_) (fun hc => ?_)
      · rw [if_pos hc] at h
        refine aw_iconst (pc := 24) dX12_bytesIn_24 ⟨by decide, by decide⟩ ?_
        exact aw_sel [0, 2] rfl (w_m_bytesIn_25 N d  _ ih _ _ _ _ _ _ _ h)
      · rw [if_neg hc] at h
        refine aw_iconst (pc := 20) dX12_bytesIn_20 ⟨by decide, by decide⟩ ?_
        refine aw_goto (pc := 21) (tgt := 25) dX12_bytesIn_21 (by decide) ?_
        exact aw_sel [0, 2] rfl (w_m_bytesIn_25 N d  _ ih _ _ _ _ _ _ _ h)
def m_bytesIn (N : Nat) (x0 : Int) (w : aw_W) : Option (Int × aw_W) :=
  m_bytesIn_5 N N x0 0 24 w
theorem w_m_bytesIn {l : Launch} {K : aw_K} (N d : Nat) (hd : 0 ≤ d) : ∀ (x0 : Int) (w : aw_W) (y : Int) (v : aw_W), m_bytesIn N x0 w = some (y, v) → aw_Met l K MX12_bytesIn (d) [.inl x0] w (some (.inl y), v) := by
  intro x0 w y v h
  unfold m_bytesIn at h
  refine aw_enter rfl (Nat.le_of_ble_eq_true rfl) ?_
  show aw_AW l K MX12_bytesIn (d) 0 [(0, .inl x0)] [] w (some (.inl y), v)
  refine aw_iconst (pc := 0) dX12_bytesIn_0 ⟨by decide, by decide⟩ ?_
  refine aw_istore_n (pc := 1) (ls' := [(1, .inl 0), (0, .inl x0)]) dX12_bytesIn_1 (by decide) rfl ?_
  refine aw_bipush (pc := 2) dX12_bytesIn_2 (by decide) ⟨by decide, by decide⟩ ?_
  refine aw_istore_n (pc := 4) (ls' := [(2, .inl 24), (1, .inl 0), (0, .inl x0)]) dX12_bytesIn_4 (by decide) rfl ?_
  exact aw_sel [2, 1, 0] rfl (w_m_bytesIn_5 N d  N _ _ _ _ _ _ h)
theorem dX12_put_0 : decode cX12_put 0 = .ok (.bipush 24, 2) := by decide +kernel
theorem dX12_put_2 : decode cX12_put 2 = .ok (.istore_n 2, 1) := by decide +kernel
theorem dX12_put_3 : decode cX12_put 3 = .ok (.iload_n 2, 1) := by decide +kernel
theorem dX12_put_4 : decode cX12_put 4 = .ok (.ifCond .lt 45, 3) := by decide +kernel
theorem dX12_put_7 : decode cX12_put 7 = .ok (.iload_n 1, 1) := by decide +kernel
theorem dX12_put_8 : decode cX12_put 8 = .ok (.iload_n 2, 1) := by decide +kernel
theorem dX12_put_9 : decode cX12_put 9 = .ok (.ishr, 1) := by decide +kernel
theorem dX12_put_10 : decode cX12_put 10 = .ok (.sipush 255, 3) := by decide +kernel
theorem dX12_put_13 : decode cX12_put 13 = .ok (.iand, 1) := by decide +kernel
theorem dX12_put_14 : decode cX12_put 14 = .ok (.ifCond .ne 6, 3) := by decide +kernel
theorem dX12_put_17 : decode cX12_put 17 = .ok (.goto 26, 3) := by decide +kernel
theorem dX12_put_20 : decode cX12_put 20 = .ok (.aload_n 0, 1) := by decide +kernel
theorem dX12_put_21 : decode cX12_put 21 = .ok (.getfield 9, 3) := by decide +kernel
theorem dX12_put_24 : decode cX12_put 24 = .ok (.aload_n 0, 1) := by decide +kernel
theorem dX12_put_25 : decode cX12_put 25 = .ok (.getfield 112, 3) := by decide +kernel
theorem dX12_put_28 : decode cX12_put 28 = .ok (.iload_n 1, 1) := by decide +kernel
theorem dX12_put_29 : decode cX12_put 29 = .ok (.iload_n 2, 1) := by decide +kernel
theorem dX12_put_30 : decode cX12_put 30 = .ok (.ishr, 1) := by decide +kernel
theorem dX12_put_31 : decode cX12_put 31 = .ok (.i2b, 1) := by decide +kernel
theorem dX12_put_32 : decode cX12_put 32 = .ok (.bastore, 1) := by decide +kernel
theorem dX12_put_33 : decode cX12_put 33 = .ok (.aload_n 0, 1) := by decide +kernel
theorem dX12_put_34 : decode cX12_put 34 = .ok (.dup, 1) := by decide +kernel
theorem dX12_put_35 : decode cX12_put 35 = .ok (.getfield 112, 3) := by decide +kernel
theorem dX12_put_38 : decode cX12_put 38 = .ok (.iconst 1, 1) := by decide +kernel
theorem dX12_put_39 : decode cX12_put 39 = .ok (.iadd, 1) := by decide +kernel
theorem dX12_put_40 : decode cX12_put 40 = .ok (.putfield 112, 3) := by decide +kernel
theorem dX12_put_43 : decode cX12_put 43 = .ok (.iinc 2 (-8), 3) := by decide +kernel
theorem dX12_put_46 : decode cX12_put 46 = .ok (.goto (-43), 3) := by decide +kernel
theorem dX12_put_49 : decode cX12_put 49 = .ok (.return_, 1) := by decide +kernel
def m_put_49 (N : Nat) (w : aw_W) : Option (aw_W) :=
  some w
theorem w_m_put_49 {l : Launch} {K : aw_K} (N d : Nat) : ∀ (w v : aw_W), m_put_49 N w = some v → aw_AW l K MX12_put (d) 49 [] [] w (none, v) := by
  intro w v h
  unfold m_put_49 at h
  cases h
  exact aw_vret (pc := 49) rfl dX12_put_49
def m_put_43 (N : Nat) (k3 : Int → Int → aw_W → Option (aw_W)) (x1 x2 : Int) (w : aw_W) : Option (aw_W) :=
  k3 x1 (aw_w (x2 + (-8))) w
theorem w_m_put_43 {l : Launch} {K : aw_K} (N d : Nat) (k3 : Int → Int → aw_W → Option (aw_W)) (hk3 : ∀ (x1 x2 : Int) (w v : aw_W), k3 x1 x2 w = some v → aw_AW l K MX12_put (d) 3 [(0, .inr (.inr 49)), (1, .inl x1), (2, .inl x2)] [] w (none, v)) : ∀ (x1 x2 : Int) (w v : aw_W), m_put_43 N k3 x1 x2 w = some v → aw_AW l K MX12_put (d) 43 [(0, .inr (.inr 49)), (1, .inl x1), (2, .inl x2)] [] w (none, v) := by
  intro x1 x2 w v h
  unfold m_put_43 at h
  refine aw_iinc (pc := 43) (q := 2) (ls' := [(2, .inl (aw_w (x2 + (-8)))), (0, .inr (.inr 49)), (1, .inl x1)]) dX12_put_43 rfl (by decide) rfl ?_
  refine aw_goto (pc := 46) (tgt := 3) dX12_put_46 (by decide) ?_
  exact aw_sel [1, 2, 0] rfl (hk3 _ _ _ _ h)
def m_put_3 (N : Nat) : Nat → Int → Int → aw_W → Option (aw_W)
  | 0, _, _, _ => none
  | n + 1, x1, x2, w =>
    if x2 < 0 then
      m_put_49 N w
    else
      if (aw_and (aw_shr x1 x2) 255) = 0 then
        m_put_43 N (m_put_3 N n) x1 x2 w
      else
        if 0 ≤ (w 49 6) ∧ (w 49 6) < 160 then
          if -128 ≤ (aw_byte (aw_shr x1 x2)) ∧ (aw_byte (aw_shr x1 x2)) < 128 then
            m_put_43 N (m_put_3 N n) x1 x2 (aw_up (aw_up w 50 ((w 49 6).toNat) (aw_byte (aw_shr x1 x2))) 49 6 (aw_w ((w 49 6) + 1)))
          else none
        else none
theorem w_m_put_3 {l : Launch} {K : aw_K} (N d : Nat) : ∀ (n : Nat) (x1 x2 : Int) (w v : aw_W), m_put_3 N n x1 x2 w = some v → aw_AW l K MX12_put (d) 3 [(0, .inr (.inr 49)), (1, .inl x1), (2, .inl x2)] [] w (none, v) := by
  intro n
  induction n with
  | zero => intro x1 x2 w v h; rw [m_put_3] at h; cases h
  | succ n ih =>
    intro x1 x2 w v h
    rw [m_put_3] at h
    refine aw_iload_n (pc := 3) (q := 2) dX12_put_3 rfl ?_
    refine aw_if_lt (pc := 4) (tgt := 49) dX12_put_4 (by decide) (fun hc => ?_) (fun hc => ?_)
    · rw [if_pos hc] at h
      exact aw_sel [] rfl (w_m_put_49 N d  _ _ h)
    · rw [if_neg hc] at h
      refine aw_iload_n (pc := 7) (q := 1) dX12_put_7 rfl ?_
      refine aw_iload_n (pc := 8) (q := 2) dX12_put_8 rfl ?_
      refine aw_ishr (pc := 9) dX12_put_9 ?_
      refine aw_sipush (pc := 10) dX12_put_10 (by decide) ⟨by decide, by decide⟩ ?_
      refine aw_iand (pc := 13) dX12_put_13 ?_
      refine aw_if_ne (pc := 14) (tgt := 20) dX12_put_14 (by decide) (fun hc => ?_) (fun hc => ?_)
      · rw [if_neg hc] at h
        refine aw_aload_n (pc := 20) (q := 0) dX12_put_20 rfl ?_
        refine aw_getf (pc := 21) (v := .inr (.inr 50)) dX12_put_21 fl_RX12_9 (by decide) rfl rfl rfl ?_
        refine aw_aload_n (pc := 24) (q := 0) dX12_put_24 rfl ?_
        refine aw_getf (pc := 25) (v := .inl (w 49 6)) dX12_put_25 fl_RX12_112 (by decide) rfl rfl rfl ?_
        refine aw_iload_n (pc := 28) (q := 1) dX12_put_28 rfl ?_
        refine aw_iload_n (pc := 29) (q := 2) dX12_put_29 rfl ?_
        refine aw_ishr (pc := 30) dX12_put_30 ?_
        refine aw_i2b (pc := 31) dX12_put_31 ?_
        obtain ⟨hb, h⟩ := aw_cks h
        obtain ⟨hz, h⟩ := aw_cks h
        refine aw_bast (pc := 32) dX12_put_32 rfl hb.1 hb.2 hz.1 hz.2 ?_
        refine aw_aload_n (pc := 33) (q := 0) dX12_put_33 rfl ?_
        refine aw_dup (pc := 34) dX12_put_34 rfl ?_
        refine aw_getf (pc := 35) (v := .inl (w 49 6)) dX12_put_35 fl_RX12_112 (by decide) rfl rfl rfl ?_
        refine aw_iconst (pc := 38) dX12_put_38 ⟨by decide, by decide⟩ ?_
        refine aw_iadd (pc := 39) dX12_put_39 ?_
        refine aw_puti (pc := 40) dX12_put_40 fp_RX12_112 (by decide) rfl rfl ?_
        exact aw_sel [0, 1, 2] rfl (w_m_put_43 N d  _ ih _ _ _ _ h)
      · rw [if_pos hc] at h
        refine aw_goto (pc := 17) (tgt := 43) dX12_put_17 (by decide) ?_
        exact aw_sel [0, 1, 2] rfl (w_m_put_43 N d  _ ih _ _ _ _ h)
def m_put (N : Nat) (x1 : Int) (w : aw_W) : Option (aw_W) :=
  m_put_3 N N x1 24 w
theorem w_m_put {l : Launch} {K : aw_K} (N d : Nat) (hd : 0 ≤ d) : ∀ (x1 : Int) (w v : aw_W), m_put N x1 w = some v → aw_Met l K MX12_put (d) [.inr (.inr 49), .inl x1] w (none, v) := by
  intro x1 w v h
  unfold m_put at h
  refine aw_enter rfl (Nat.le_of_ble_eq_true rfl) ?_
  show aw_AW l K MX12_put (d) 0 [(0, .inr (.inr 49)), (1, .inl x1)] [] w (none, v)
  refine aw_bipush (pc := 0) dX12_put_0 (by decide) ⟨by decide, by decide⟩ ?_
  refine aw_istore_n (pc := 2) (ls' := [(2, .inl 24), (0, .inr (.inr 49)), (1, .inl x1)]) dX12_put_2 (by decide) rfl ?_
  exact aw_sel [1, 2, 0] rfl (w_m_put_3 N d  N _ _ _ _ h)
theorem dX12_feed_0 : decode cX12_feed 0 = .ok (.aload_n 0, 1) := by decide +kernel
theorem dX12_feed_1 : decode cX12_feed 1 = .ok (.iconst 0, 1) := by decide +kernel
theorem dX12_feed_2 : decode cX12_feed 2 = .ok (.putfield 99, 3) := by decide +kernel
theorem dX12_feed_5 : decode cX12_feed 5 = .ok (.aload_n 0, 1) := by decide +kernel
theorem dX12_feed_6 : decode cX12_feed 6 = .ok (.getfield 112, 3) := by decide +kernel
theorem dX12_feed_9 : decode cX12_feed 9 = .ok (.iload_n 1, 1) := by decide +kernel
theorem dX12_feed_10 : decode cX12_feed 10 = .ok (.invokestatic 114, 3) := by decide +kernel
theorem dX12_feed_13 : decode cX12_feed 13 = .ok (.iadd, 1) := by decide +kernel
theorem dX12_feed_14 : decode cX12_feed 14 = .ok (.iload_n 2, 1) := by decide +kernel
theorem dX12_feed_15 : decode cX12_feed 15 = .ok (.invokestatic 114, 3) := by decide +kernel
theorem dX12_feed_18 : decode cX12_feed 18 = .ok (.iadd, 1) := by decide +kernel
theorem dX12_feed_19 : decode cX12_feed 19 = .ok (.iload_n 3, 1) := by decide +kernel
theorem dX12_feed_20 : decode cX12_feed 20 = .ok (.invokestatic 114, 3) := by decide +kernel
theorem dX12_feed_23 : decode cX12_feed 23 = .ok (.iadd, 1) := by decide +kernel
theorem dX12_feed_24 : decode cX12_feed 24 = .ok (.iload 4, 2) := by decide +kernel
theorem dX12_feed_26 : decode cX12_feed 26 = .ok (.invokestatic 114, 3) := by decide +kernel
theorem dX12_feed_29 : decode cX12_feed 29 = .ok (.iadd, 1) := by decide +kernel
theorem dX12_feed_30 : decode cX12_feed 30 = .ok (.iload 5, 2) := by decide +kernel
theorem dX12_feed_32 : decode cX12_feed 32 = .ok (.invokestatic 114, 3) := by decide +kernel
theorem dX12_feed_35 : decode cX12_feed 35 = .ok (.iadd, 1) := by decide +kernel
theorem dX12_feed_36 : decode cX12_feed 36 = .ok (.sipush 160, 3) := by decide +kernel
theorem dX12_feed_39 : decode cX12_feed 39 = .ok (.if_icmp .le 5, 3) := by decide +kernel
theorem dX12_feed_42 : decode cX12_feed 42 = .ok (.iconst (-1), 1) := by decide +kernel
theorem dX12_feed_43 : decode cX12_feed 43 = .ok (.ireturn, 1) := by decide +kernel
theorem dX12_feed_44 : decode cX12_feed 44 = .ok (.aload_n 0, 1) := by decide +kernel
theorem dX12_feed_45 : decode cX12_feed 45 = .ok (.iload_n 1, 1) := by decide +kernel
theorem dX12_feed_46 : decode cX12_feed 46 = .ok (.invokevirtual 118, 3) := by decide +kernel
theorem dX12_feed_49 : decode cX12_feed 49 = .ok (.aload_n 0, 1) := by decide +kernel
theorem dX12_feed_50 : decode cX12_feed 50 = .ok (.iload_n 2, 1) := by decide +kernel
theorem dX12_feed_51 : decode cX12_feed 51 = .ok (.invokevirtual 118, 3) := by decide +kernel
theorem dX12_feed_54 : decode cX12_feed 54 = .ok (.aload_n 0, 1) := by decide +kernel
theorem dX12_feed_55 : decode cX12_feed 55 = .ok (.iload_n 3, 1) := by decide +kernel
theorem dX12_feed_56 : decode cX12_feed 56 = .ok (.invokevirtual 118, 3) := by decide +kernel
theorem dX12_feed_59 : decode cX12_feed 59 = .ok (.aload_n 0, 1) := by decide +kernel
theorem dX12_feed_60 : decode cX12_feed 60 = .ok (.iload 4, 2) := by decide +kernel
theorem dX12_feed_62 : decode cX12_feed 62 = .ok (.invokevirtual 118, 3) := by decide +kernel
theorem dX12_feed_65 : decode cX12_feed 65 = .ok (.aload_n 0, 1) := by decide +kernel
theorem dX12_feed_66 : decode cX12_feed 66 = .ok (.iload 5, 2) := by decide +kernel
theorem dX12_feed_68 : decode cX12_feed 68 = .ok (.invokevirtual 118, 3) := by decide +kernel
theorem dX12_feed_71 : decode cX12_feed 71 = .ok (.aload_n 0, 1) := by decide +kernel
theorem dX12_feed_72 : decode cX12_feed 72 = .ok (.getfield 112, 3) := by decide +kernel
theorem dX12_feed_75 : decode cX12_feed 75 = .ok (.ireturn, 1) := by decide +kernel
def m_feed (N : Nat) (x1 x2 x3 x4 x5 : Int) (w : aw_W) : Option (Int × aw_W) :=
  aw_b2 (m_bytesIn N x1 (aw_up w 49 0 0)) fun r1 w1 =>
    aw_b2 (m_bytesIn N x2 w1) fun r2 w2 =>
      aw_b2 (m_bytesIn N x3 w2) fun r3 w3 =>
        aw_b2 (m_bytesIn N x4 w3) fun r4 w4 =>
          aw_b2 (m_bytesIn N x5 w4) fun r5 w5 =>
            if (aw_w ((aw_w ((aw_w ((aw_w ((aw_w ((w 49 6) + r1)) + r2)) + r3)) + r4)) + r5)) ≤ 160 then
              aw_b1 (m_put N x1 w5) fun w6 =>
                aw_b1 (m_put N x2 w6) fun w7 =>
                  aw_b1 (m_put N x3 w7) fun w8 =>
                    aw_b1 (m_put N x4 w8) fun w9 =>
                      aw_b1 (m_put N x5 w9) fun w10 =>
                        some (w10 49 6, w10)
            else
              some ((-1), w5)
theorem w_m_feed_d {l : Launch} {K : aw_K} (N d : Nat) (hd : 0 ≤ d) : ∀ (x1 x2 x3 x4 x5 : Int) (w : aw_W) (y : Int) (v : aw_W), m_feed N x1 x2 x3 x4 x5 w = some (y, v) → aw_Met l K MX12_feed (d + 1) [.inr (.inr 49), .inl x1, .inl x2, .inl x3, .inl x4, .inl x5] w (some (.inl y), v) := by
  intro x1 x2 x3 x4 x5 w y v h
  unfold m_feed at h
  refine aw_enter rfl (Nat.le_of_ble_eq_true rfl) ?_
  show aw_AW l K MX12_feed (d + 1) 0 [(0, .inr (.inr 49)), (1, .inl x1), (2, .inl x2), (3, .inl x3), (4, .inl x4), (5, .inl x5)] [] w (some (.inl y), v)
  refine aw_aload_n (pc := 0) (q := 0) dX12_feed_0 rfl ?_
  refine aw_iconst (pc := 1) dX12_feed_1 ⟨by decide, by decide⟩ ?_
  refine aw_puti (pc := 2) dX12_feed_2 fp_RX12_99 (by decide) rfl rfl ?_
  refine aw_aload_n (pc := 5) (q := 0) dX12_feed_5 rfl ?_
  refine aw_getf (pc := 6) (v := .inl (w 49 6)) dX12_feed_6 fl_RX12_112 (by decide) rfl rfl rfl ?_
  refine aw_iload_n (pc := 9) (q := 1) dX12_feed_9 rfl ?_
  obtain ⟨r1, w1, h1, h⟩ := aw_b2s h
  refine aw_callS (pc := 10) (as := [.inl x1]) (st := [.inl (w 49 6)]) (st' := [.inl r1, .inl (w 49 6)]) dX12_feed_10 cs_RX12_114 rfl rfl (Nat.le_of_ble_eq_true rfl) (w_m_bytesIn N d (by omega) _ _ _ _ h1) rfl ?_
  refine aw_iadd (pc := 13) dX12_feed_13 ?_
  refine aw_iload_n (pc := 14) (q := 2) dX12_feed_14 rfl ?_
  obtain ⟨r2, w2, h2, h⟩ := aw_b2s h
  refine aw_callS (pc := 15) (as := [.inl x2]) (st := [.inl (aw_w ((w 49 6) + r1))]) (st' := [.inl r2, .inl (aw_w ((w 49 6) + r1))]) dX12_feed_15 cs_RX12_114 rfl rfl (Nat.le_of_ble_eq_true rfl) (w_m_bytesIn N d (by omega) _ _ _ _ h2) rfl ?_
  refine aw_iadd (pc := 18) dX12_feed_18 ?_
  refine aw_iload_n (pc := 19) (q := 3) dX12_feed_19 rfl ?_
  obtain ⟨r3, w3, h3, h⟩ := aw_b2s h
  refine aw_callS (pc := 20) (as := [.inl x3]) (st := [.inl (aw_w ((aw_w ((w 49 6) + r1)) + r2))]) (st' := [.inl r3, .inl (aw_w ((aw_w ((w 49 6) + r1)) + r2))]) dX12_feed_20 cs_RX12_114 rfl rfl (Nat.le_of_ble_eq_true rfl) (w_m_bytesIn N d (by omega) _ _ _ _ h3) rfl ?_
  refine aw_iadd (pc := 23) dX12_feed_23 ?_
  refine aw_iload (pc := 24) (q := 4) dX12_feed_24 rfl ?_
  obtain ⟨r4, w4, h4, h⟩ := aw_b2s h
  refine aw_callS (pc := 26) (as := [.inl x4]) (st := [.inl (aw_w ((aw_w ((aw_w ((w 49 6) + r1)) + r2)) + r3))]) (st' := [.inl r4, .inl (aw_w ((aw_w ((aw_w ((w 49 6) + r1)) + r2)) + r3))]) dX12_feed_26 cs_RX12_114 rfl rfl (Nat.le_of_ble_eq_true rfl) (w_m_bytesIn N d (by omega) _ _ _ _ h4) rfl ?_
  refine aw_iadd (pc := 29) dX12_feed_29 ?_
  refine aw_iload (pc := 30) (q := 5) dX12_feed_30 rfl ?_
  obtain ⟨r5, w5, h5, h⟩ := aw_b2s h
  refine aw_callS (pc := 32) (as := [.inl x5]) (st := [.inl (aw_w ((aw_w ((aw_w ((aw_w ((w 49 6) + r1)) + r2)) + r3)) + r4))]) (st' := [.inl r5, .inl (aw_w ((aw_w ((aw_w ((aw_w ((w 49 6) + r1)) + r2)) + r3)) + r4))]) dX12_feed_32 cs_RX12_114 rfl rfl (Nat.le_of_ble_eq_true rfl) (w_m_bytesIn N d (by omega) _ _ _ _ h5) rfl ?_
  refine aw_iadd (pc := 35) dX12_feed_35 ?_
  refine aw_sipush (pc := 36) dX12_feed_36 (by decide) ⟨by decide, by decide⟩ ?_
  refine aw_icmp_le (pc := 39) (tgt := 44) dX12_feed_39 (by decide) (fun hc => ?_) (fun hc => ?_)
  · rw [if_pos hc] at h
    refine aw_aload_n (pc := 44) (q := 0) dX12_feed_44 rfl ?_
    refine aw_iload_n (pc := 45) (q := 1) dX12_feed_45 rfl ?_
    obtain ⟨w6, h6, h⟩ := aw_b1s h
    refine aw_callV (pc := 46) (as := [.inl x1]) (st := []) (st' := []) dX12_feed_46 cv_RX12_118 (by decide) rfl rfl rfl rfl (Nat.le_of_ble_eq_true rfl) (w_m_put N d (by omega) _ _ _ h6) rfl ?_
    refine aw_aload_n (pc := 49) (q := 0) dX12_feed_49 rfl ?_
    refine aw_iload_n (pc := 50) (q := 2) dX12_feed_50 rfl ?_
    obtain ⟨w7, h7, h⟩ := aw_b1s h
    refine aw_callV (pc := 51) (as := [.inl x2]) (st := []) (st' := []) dX12_feed_51 cv_RX12_118 (by decide) rfl rfl rfl rfl (Nat.le_of_ble_eq_true rfl) (w_m_put N d (by omega) _ _ _ h7) rfl ?_
    refine aw_aload_n (pc := 54) (q := 0) dX12_feed_54 rfl ?_
    refine aw_iload_n (pc := 55) (q := 3) dX12_feed_55 rfl ?_
    obtain ⟨w8, h8, h⟩ := aw_b1s h
    refine aw_callV (pc := 56) (as := [.inl x3]) (st := []) (st' := []) dX12_feed_56 cv_RX12_118 (by decide) rfl rfl rfl rfl (Nat.le_of_ble_eq_true rfl) (w_m_put N d (by omega) _ _ _ h8) rfl ?_
    refine aw_aload_n (pc := 59) (q := 0) dX12_feed_59 rfl ?_
    refine aw_iload (pc := 60) (q := 4) dX12_feed_60 rfl ?_
    obtain ⟨w9, h9, h⟩ := aw_b1s h
    refine aw_callV (pc := 62) (as := [.inl x4]) (st := []) (st' := []) dX12_feed_62 cv_RX12_118 (by decide) rfl rfl rfl rfl (Nat.le_of_ble_eq_true rfl) (w_m_put N d (by omega) _ _ _ h9) rfl ?_
    refine aw_aload_n (pc := 65) (q := 0) dX12_feed_65 rfl ?_
    refine aw_iload (pc := 66) (q := 5) dX12_feed_66 rfl ?_
    obtain ⟨w10, h10, h⟩ := aw_b1s h
    refine aw_callV (pc := 68) (as := [.inl x5]) (st := []) (st' := []) dX12_feed_68 cv_RX12_118 (by decide) rfl rfl rfl rfl (Nat.le_of_ble_eq_true rfl) (w_m_put N d (by omega) _ _ _ h10) rfl ?_
    refine aw_aload_n (pc := 71) (q := 0) dX12_feed_71 rfl ?_
    refine aw_getf (pc := 72) (v := .inl (w10 49 6)) dX12_feed_72 fl_RX12_112 (by decide) rfl rfl rfl ?_
    cases h
    exact aw_iret (pc := 75) rfl dX12_feed_75
  · rw [if_neg hc] at h
    refine aw_iconst (pc := 42) dX12_feed_42 ⟨by decide, by decide⟩ ?_
    cases h
    exact aw_iret (pc := 43) rfl dX12_feed_43
theorem w_m_feed {l : Launch} {K : aw_K} (N d : Nat) (hd : 1 ≤ d) : ∀ (x1 x2 x3 x4 x5 : Int) (w : aw_W) (y : Int) (v : aw_W), m_feed N x1 x2 x3 x4 x5 w = some (y, v) → aw_Met l K MX12_feed (d) [.inr (.inr 49), .inl x1, .inl x2, .inl x3, .inl x4, .inl x5] w (some (.inl y), v) := by
  obtain ⟨e, rfl⟩ : ∃ e, d = e + 1 := ⟨d - 1, by omega⟩
  exact w_m_feed_d N e (by omega)
theorem dX12_isPact_0 : decode cX12_isPact 0 = .ok (.aload_n 0, 1) := by decide +kernel
theorem dX12_isPact_1 : decode cX12_isPact 1 = .ok (.getfield 270, 3) := by decide +kernel
theorem dX12_isPact_4 : decode cX12_isPact 4 = .ok (.ifCond .le 29, 3) := by decide +kernel
theorem dX12_isPact_7 : decode cX12_isPact 7 = .ok (.iload_n 2, 1) := by decide +kernel
theorem dX12_isPact_8 : decode cX12_isPact 8 = .ok (.ifCond .le 25, 3) := by decide +kernel
theorem dX12_isPact_11 : decode cX12_isPact 11 = .ok (.iload_n 2, 1) := by decide +kernel
theorem dX12_isPact_12 : decode cX12_isPact 12 = .ok (.iconst 1, 1) := by decide +kernel
theorem dX12_isPact_13 : decode cX12_isPact 13 = .ok (.aload_n 0, 1) := by decide +kernel
theorem dX12_isPact_14 : decode cX12_isPact 14 = .ok (.getfield 270, 3) := by decide +kernel
theorem dX12_isPact_17 : decode cX12_isPact 17 = .ok (.ishl, 1) := by decide +kernel
theorem dX12_isPact_18 : decode cX12_isPact 18 = .ok (.if_icmp .ge 15, 3) := by decide +kernel
theorem dX12_isPact_21 : decode cX12_isPact 21 = .ok (.aload_n 0, 1) := by decide +kernel
theorem dX12_isPact_22 : decode cX12_isPact 22 = .ok (.iload_n 1, 1) := by decide +kernel
theorem dX12_isPact_23 : decode cX12_isPact 23 = .ok (.invokevirtual 342, 3) := by decide +kernel
theorem dX12_isPact_26 : decode cX12_isPact 26 = .ok (.ifCond .eq 7, 3) := by decide +kernel
theorem dX12_isPact_29 : decode cX12_isPact 29 = .ok (.iconst 1, 1) := by decide +kernel
theorem dX12_isPact_30 : decode cX12_isPact 30 = .ok (.goto 4, 3) := by decide +kernel
theorem dX12_isPact_33 : decode cX12_isPact 33 = .ok (.iconst 0, 1) := by decide +kernel
theorem dX12_isPact_34 : decode cX12_isPact 34 = .ok (.ireturn, 1) := by decide +kernel
def m_isPact_34 (N : Nat) (s0 : Int) (w : aw_W) : Option (Int × aw_W) :=
  if s0 = 0 ∨ s0 = 1 then
    some (s0, w)
  else none
theorem w_m_isPact_34 {l : Launch} {K : aw_K} (N d : Nat) (hd : 0 ≤ d) : ∀ (s0 : Int) (w : aw_W) (y : Int) (v : aw_W), m_isPact_34 N s0 w = some (y, v) → aw_AW l K MX12_isPact (d + 1) 34 [] [.inl s0] w (some (.inl y), v) := by
  intro s0 w y v h
  unfold m_isPact_34 at h
  obtain ⟨hz, h⟩ := aw_cks h
  cases h
  exact aw_zret (pc := 34) rfl hz dX12_isPact_34
def m_isPact_33 (N : Nat) (w : aw_W) : Option (Int × aw_W) :=
  m_isPact_34 N 0 w
theorem w_m_isPact_33 {l : Launch} {K : aw_K} (N d : Nat) (hd : 0 ≤ d) : ∀ (w : aw_W) (y : Int) (v : aw_W), m_isPact_33 N w = some (y, v) → aw_AW l K MX12_isPact (d + 1) 33 [] [] w (some (.inl y), v) := by
  intro w y v h
  unfold m_isPact_33 at h
  refine aw_iconst (pc := 33) dX12_isPact_33 ⟨by decide, by decide⟩ ?_
  exact aw_sel [] rfl (w_m_isPact_34 N d hd  _ _ _ _ h)
def m_isPact (N : Nat) (x1 x2 : Int) (w : aw_W) : Option (Int × aw_W) :=
  if (w 49 22) ≤ 0 then
    m_isPact_33 N w
  else
    if x2 ≤ 0 then
      m_isPact_33 N w
    else
      if (aw_shl 1 (w 49 22)) ≤ x2 then
        m_isPact_33 N w
      else
        aw_b2 (m_lay N x1 w) fun r1 w1 =>
          if r1 = 0 then
            m_isPact_33 N w1
          else
            m_isPact_34 N 1 w1
theorem w_m_isPact_d {l : Launch} {K : aw_K} (N d : Nat) (hd : 0 ≤ d) : ∀ (x1 x2 : Int) (w : aw_W) (y : Int) (v : aw_W), m_isPact N x1 x2 w = some (y, v) → aw_Met l K MX12_isPact (d + 1) [.inr (.inr 49), .inl x1, .inl x2] w (some (.inl y), v) := by
  intro x1 x2 w y v h
  unfold m_isPact at h
  refine aw_enter rfl (Nat.le_of_ble_eq_true rfl) ?_
  show aw_AW l K MX12_isPact (d + 1) 0 [(0, .inr (.inr 49)), (1, .inl x1), (2, .inl x2)] [] w (some (.inl y), v)
  refine aw_aload_n (pc := 0) (q := 0) dX12_isPact_0 rfl ?_
  refine aw_getf (pc := 1) (v := .inl (w 49 22)) dX12_isPact_1 fl_RX12_270 (by decide) rfl rfl rfl ?_
  refine aw_if_le (pc := 4) (tgt := 33) dX12_isPact_4 (by decide) (fun hc => ?_) (fun hc => ?_)
  · rw [if_pos hc] at h
    exact aw_sel [] rfl (w_m_isPact_33 N d hd  _ _ _ h)
  · rw [if_neg hc] at h
    refine aw_iload_n (pc := 7) (q := 2) dX12_isPact_7 rfl ?_
    refine aw_if_le (pc := 8) (tgt := 33) dX12_isPact_8 (by decide) (fun hc => ?_) (fun hc => ?_)
    · rw [if_pos hc] at h
      exact aw_sel [] rfl (w_m_isPact_33 N d hd  _ _ _ h)
    · rw [if_neg hc] at h
      refine aw_iload_n (pc := 11) (q := 2) dX12_isPact_11 rfl ?_
      refine aw_iconst (pc := 12) dX12_isPact_12 ⟨by decide, by decide⟩ ?_
      refine aw_aload_n (pc := 13) (q := 0) dX12_isPact_13 rfl ?_
      refine aw_getf (pc := 14) (v := .inl (w 49 22)) dX12_isPact_14 fl_RX12_270 (by decide) rfl rfl rfl ?_
      refine aw_ishl (pc := 17) dX12_isPact_17 ?_
      refine aw_icmp_ge (pc := 18) (tgt := 33) dX12_isPact_18 (by decide) (fun hc => ?_) (fun hc => ?_)
      · rw [if_pos hc] at h
        exact aw_sel [] rfl (w_m_isPact_33 N d hd  _ _ _ h)
      · rw [if_neg hc] at h
        refine aw_aload_n (pc := 21) (q := 0) dX12_isPact_21 rfl ?_
        refine aw_iload_n (pc := 22) (q := 1) dX12_isPact_22 rfl ?_
        obtain ⟨r1, w1, h1, h⟩ := aw_b2s h
        refine aw_callV (pc := 23) (as := [.inl x1]) (st := []) (st' := [.inl r1]) dX12_isPact_23 cv_RX12_342 (by decide) rfl rfl rfl rfl (Nat.le_of_ble_eq_true rfl) (w_m_lay N d (by omega) _ _ _ _ h1) rfl ?_
        refine aw_if_eq (pc := 26) (tgt := 33) dX12_isPact_26 (by decide) (fun hc => ?_) (fun hc => ?_)
        · rw [if_pos hc] at h
          exact aw_sel [] rfl (w_m_isPact_33 N d hd  _ _ _ h)
        · rw [if_neg hc] at h
          refine aw_iconst (pc := 29) dX12_isPact_29 ⟨by decide, by decide⟩ ?_
          refine aw_goto (pc := 30) (tgt := 34) dX12_isPact_30 (by decide) ?_
          exact aw_sel [] rfl (w_m_isPact_34 N d hd  _ _ _ _ h)
theorem w_m_isPact {l : Launch} {K : aw_K} (N d : Nat) (hd : 1 ≤ d) : ∀ (x1 x2 : Int) (w : aw_W) (y : Int) (v : aw_W), m_isPact N x1 x2 w = some (y, v) → aw_Met l K MX12_isPact (d) [.inr (.inr 49), .inl x1, .inl x2] w (some (.inl y), v) := by
  obtain ⟨e, rfl⟩ : ∃ e, d = e + 1 := ⟨d - 1, by omega⟩
  exact w_m_isPact_d N e (by omega)
theorem dX12_firm_0 : decode cX12_firm 0 = .ok (.aload_n 0, 1) := by decide +kernel
theorem dX12_firm_1 : decode cX12_firm 1 = .ok (.iconst 0, 1) := by decide +kernel
theorem dX12_firm_2 : decode cX12_firm 2 = .ok (.putfield 99, 3) := by decide +kernel
theorem dX12_firm_5 : decode cX12_firm 5 = .ok (.aload_n 0, 1) := by decide +kernel
theorem dX12_firm_6 : decode cX12_firm 6 = .ok (.iload_n 1, 1) := by decide +kernel
theorem dX12_firm_7 : decode cX12_firm 7 = .ok (.iload_n 2, 1) := by decide +kernel
theorem dX12_firm_8 : decode cX12_firm 8 = .ok (.invokevirtual 369, 3) := by decide +kernel
theorem dX12_firm_11 : decode cX12_firm 11 = .ok (.ifCond .ne 5, 3) := by decide +kernel
theorem dX12_firm_14 : decode cX12_firm 14 = .ok (.iconst (-1), 1) := by decide +kernel
theorem dX12_firm_15 : decode cX12_firm 15 = .ok (.ireturn, 1) := by decide +kernel
theorem dX12_firm_16 : decode cX12_firm 16 = .ok (.iconst 0, 1) := by decide +kernel
theorem dX12_firm_17 : decode cX12_firm 17 = .ok (.istore_n 3, 1) := by decide +kernel
theorem dX12_firm_18 : decode cX12_firm 18 = .ok (.iload_n 3, 1) := by decide +kernel
theorem dX12_firm_19 : decode cX12_firm 19 = .ok (.aload_n 0, 1) := by decide +kernel
theorem dX12_firm_20 : decode cX12_firm 20 = .ok (.getfield 270, 3) := by decide +kernel
theorem dX12_firm_23 : decode cX12_firm 23 = .ok (.if_icmp .ge 34, 3) := by decide +kernel
theorem dX12_firm_26 : decode cX12_firm 26 = .ok (.iload_n 2, 1) := by decide +kernel
theorem dX12_firm_27 : decode cX12_firm 27 = .ok (.iload_n 3, 1) := by decide +kernel
theorem dX12_firm_28 : decode cX12_firm 28 = .ok (.invokestatic 248, 3) := by decide +kernel
theorem dX12_firm_31 : decode cX12_firm 31 = .ok (.ifCond .ne 6, 3) := by decide +kernel
theorem dX12_firm_34 : decode cX12_firm 34 = .ok (.goto 17, 3) := by decide +kernel
theorem dX12_firm_37 : decode cX12_firm 37 = .ok (.aload_n 0, 1) := by decide +kernel
theorem dX12_firm_38 : decode cX12_firm 38 = .ok (.iload_n 3, 1) := by decide +kernel
theorem dX12_firm_39 : decode cX12_firm 39 = .ok (.invokevirtual 357, 3) := by decide +kernel
theorem dX12_firm_42 : decode cX12_firm 42 = .ok (.aload_n 0, 1) := by decide +kernel
theorem dX12_firm_43 : decode cX12_firm 43 = .ok (.getfield 354, 3) := by decide +kernel
theorem dX12_firm_46 : decode cX12_firm 46 = .ok (.ifCond .le 5, 3) := by decide +kernel
theorem dX12_firm_49 : decode cX12_firm 49 = .ok (.iconst 0, 1) := by decide +kernel
theorem dX12_firm_50 : decode cX12_firm 50 = .ok (.ireturn, 1) := by decide +kernel
theorem dX12_firm_51 : decode cX12_firm 51 = .ok (.iinc 3 1, 3) := by decide +kernel
theorem dX12_firm_54 : decode cX12_firm 54 = .ok (.goto (-36), 3) := by decide +kernel
theorem dX12_firm_57 : decode cX12_firm 57 = .ok (.iconst 1, 1) := by decide +kernel
theorem dX12_firm_58 : decode cX12_firm 58 = .ok (.ireturn, 1) := by decide +kernel
def m_firm_57 (N : Nat) (w : aw_W) : Option (Int × aw_W) :=
  some (1, w)
theorem w_m_firm_57 {l : Launch} {K : aw_K} (N d : Nat) (hd : 4 ≤ d) : ∀ (w : aw_W) (y : Int) (v : aw_W), m_firm_57 N w = some (y, v) → aw_AW l K MX12_firm (d + 1) 57 [] [] w (some (.inl y), v) := by
  intro w y v h
  unfold m_firm_57 at h
  refine aw_iconst (pc := 57) dX12_firm_57 ⟨by decide, by decide⟩ ?_
  cases h
  exact aw_iret (pc := 58) rfl dX12_firm_58
def m_firm_51 (N : Nat) (k18 : Int → Int → aw_W → Option (Int × aw_W)) (x2 x3 : Int) (w : aw_W) : Option (Int × aw_W) :=
  k18 x2 (aw_w (x3 + 1)) w
theorem w_m_firm_51 {l : Launch} {K : aw_K} (N d : Nat) (hd : 4 ≤ d) (k18 : Int → Int → aw_W → Option (Int × aw_W)) (hk18 : ∀ (x2 x3 : Int) (w : aw_W) (y : Int) (v : aw_W), k18 x2 x3 w = some (y, v) → aw_AW l K MX12_firm (d + 1) 18 [(0, .inr (.inr 49)), (2, .inl x2), (3, .inl x3)] [] w (some (.inl y), v)) : ∀ (x2 x3 : Int) (w : aw_W) (y : Int) (v : aw_W), m_firm_51 N k18 x2 x3 w = some (y, v) → aw_AW l K MX12_firm (d + 1) 51 [(0, .inr (.inr 49)), (2, .inl x2), (3, .inl x3)] [] w (some (.inl y), v) := by
  intro x2 x3 w y v h
  unfold m_firm_51 at h
  refine aw_iinc (pc := 51) (q := 2) (ls' := [(3, .inl (aw_w (x3 + 1))), (0, .inr (.inr 49)), (2, .inl x2)]) dX12_firm_51 rfl (by decide) rfl ?_
  refine aw_goto (pc := 54) (tgt := 18) dX12_firm_54 (by decide) ?_
  exact aw_sel [1, 2, 0] rfl (hk18 _ _ _ _ _ h)
def m_firm_49 (N : Nat) (w : aw_W) : Option (Int × aw_W) :=
  some (0, w)
theorem w_m_firm_49 {l : Launch} {K : aw_K} (N d : Nat) (hd : 4 ≤ d) : ∀ (w : aw_W) (y : Int) (v : aw_W), m_firm_49 N w = some (y, v) → aw_AW l K MX12_firm (d + 1) 49 [] [] w (some (.inl y), v) := by
  intro w y v h
  unfold m_firm_49 at h
  refine aw_iconst (pc := 49) dX12_firm_49 ⟨by decide, by decide⟩ ?_
  cases h
  exact aw_iret (pc := 50) rfl dX12_firm_50
def m_firm_18 (N : Nat) : Nat → Int → Int → aw_W → Option (Int × aw_W)
  | 0, _, _, _ => none
  | n + 1, x2, x3, w =>
    if (w 49 22) ≤ x3 then
      m_firm_57 N w
    else
      aw_b2 (m_has N x2 x3 w) fun r1 w1 =>
        if r1 = 0 then
          m_firm_51 N (m_firm_18 N n) x2 x3 w1
        else
          aw_b1 (m_layBest N x3 w1) fun w2 =>
            if (w2 49 35) ≤ 0 then
              m_firm_51 N (m_firm_18 N n) x2 x3 w2
            else
              m_firm_49 N w2
theorem w_m_firm_18 {l : Launch} {K : aw_K} (N d : Nat) (hd : 4 ≤ d) : ∀ (n : Nat) (x2 x3 : Int) (w : aw_W) (y : Int) (v : aw_W), m_firm_18 N n x2 x3 w = some (y, v) → aw_AW l K MX12_firm (d + 1) 18 [(0, .inr (.inr 49)), (2, .inl x2), (3, .inl x3)] [] w (some (.inl y), v) := by
  intro n
  induction n with
  | zero => intro x2 x3 w y v h; rw [m_firm_18] at h; cases h
  | succ n ih =>
    intro x2 x3 w y v h
    rw [m_firm_18] at h
    refine aw_iload_n (pc := 18) (q := 2) dX12_firm_18 rfl ?_
    refine aw_aload_n (pc := 19) (q := 0) dX12_firm_19 rfl ?_
    refine aw_getf (pc := 20) (v := .inl (w 49 22)) dX12_firm_20 fl_RX12_270 (by decide) rfl rfl rfl ?_
    refine aw_icmp_ge (pc := 23) (tgt := 57) dX12_firm_23 (by decide) (fun hc => ?_) (fun hc => ?_)
    · rw [if_pos hc] at h
      exact aw_sel [] rfl (w_m_firm_57 N d hd  _ _ _ h)
    · rw [if_neg hc] at h
      refine aw_iload_n (pc := 26) (q := 1) dX12_firm_26 rfl ?_
      refine aw_iload_n (pc := 27) (q := 2) dX12_firm_27 rfl ?_
      obtain ⟨r1, w1, h1, h⟩ := aw_b2s h
      refine aw_callS (pc := 28) (as := [.inl x2, .inl x3]) (st := []) (st' := [.inl r1]) dX12_firm_28 cs_RX12_248 rfl rfl (Nat.le_of_ble_eq_true rfl) (w_m_has N d (by omega) _ _ _ _ _ h1) rfl ?_
      refine aw_if_ne (pc := 31) (tgt := 37) dX12_firm_31 (by decide) (fun hc => ?_) (fun hc => ?_)
      · rw [if_neg hc] at h
        refine aw_aload_n (pc := 37) (q := 0) dX12_firm_37 rfl ?_
        refine aw_iload_n (pc := 38) (q := 2) dX12_firm_38 rfl ?_
        obtain ⟨w2, h2, h⟩ := aw_b1s h
        refine aw_callV (pc := 39) (as := [.inl x3]) (st := []) (st' := []) dX12_firm_39 cv_RX12_357 (by decide) rfl rfl rfl rfl (Nat.le_of_ble_eq_true rfl) (w_m_layBest N d (by omega) _ _ _ h2) rfl ?_
        refine aw_aload_n (pc := 42) (q := 0) dX12_firm_42 rfl ?_
        refine aw_getf (pc := 43) (v := .inl (w2 49 35)) dX12_firm_43 fl_RX12_354 (by decide) rfl rfl rfl ?_
        refine aw_if_le (pc := 46) (tgt := 51) dX12_firm_46 (by decide) (fun hc => ?_) (fun hc => ?_)
        · rw [if_pos hc] at h
          exact aw_sel [0, 1, 2] rfl (w_m_firm_51 N d hd  _ ih _ _ _ _ _ h)
        · rw [if_neg hc] at h
          exact aw_sel [] rfl (w_m_firm_49 N d hd  _ _ _ h)
      · rw [if_pos hc] at h
        refine aw_goto (pc := 34) (tgt := 51) dX12_firm_34 (by decide) ?_
        exact aw_sel [0, 1, 2] rfl (w_m_firm_51 N d hd  _ ih _ _ _ _ _ h)
def m_firm (N : Nat) (x1 x2 : Int) (w : aw_W) : Option (Int × aw_W) :=
  aw_b2 (m_isPact N x1 x2 (aw_up w 49 0 0)) fun r1 w1 =>
    if r1 = 0 then
      some ((-1), w1)
    else
      m_firm_18 N N x2 0 w1
theorem w_m_firm_d {l : Launch} {K : aw_K} (N d : Nat) (hd : 4 ≤ d) : ∀ (x1 x2 : Int) (w : aw_W) (y : Int) (v : aw_W), m_firm N x1 x2 w = some (y, v) → aw_Met l K MX12_firm (d + 1) [.inr (.inr 49), .inl x1, .inl x2] w (some (.inl y), v) := by
  intro x1 x2 w y v h
  unfold m_firm at h
  refine aw_enter rfl (Nat.le_of_ble_eq_true rfl) ?_
  show aw_AW l K MX12_firm (d + 1) 0 [(0, .inr (.inr 49)), (1, .inl x1), (2, .inl x2)] [] w (some (.inl y), v)
  refine aw_aload_n (pc := 0) (q := 0) dX12_firm_0 rfl ?_
  refine aw_iconst (pc := 1) dX12_firm_1 ⟨by decide, by decide⟩ ?_
  refine aw_puti (pc := 2) dX12_firm_2 fp_RX12_99 (by decide) rfl rfl ?_
  refine aw_aload_n (pc := 5) (q := 0) dX12_firm_5 rfl ?_
  refine aw_iload_n (pc := 6) (q := 1) dX12_firm_6 rfl ?_
  refine aw_iload_n (pc := 7) (q := 2) dX12_firm_7 rfl ?_
  obtain ⟨r1, w1, h1, h⟩ := aw_b2s h
  refine aw_callV (pc := 8) (as := [.inl x1, .inl x2]) (st := []) (st' := [.inl r1]) dX12_firm_8 cv_RX12_369 (by decide) rfl rfl rfl rfl (Nat.le_of_ble_eq_true rfl) (w_m_isPact N d (by omega) _ _ _ _ _ h1) rfl ?_
  refine aw_if_ne (pc := 11) (tgt := 16) dX12_firm_11 (by decide) (fun hc => ?_) (fun hc => ?_)
  · rw [if_neg hc] at h
    refine aw_iconst (pc := 16) dX12_firm_16 ⟨by decide, by decide⟩ ?_
    refine aw_istore_n (pc := 17) (ls' := [(3, .inl 0), (0, .inr (.inr 49)), (1, .inl x1), (2, .inl x2)]) dX12_firm_17 (by decide) rfl ?_
    exact aw_sel [1, 3, 0] rfl (w_m_firm_18 N d hd  N _ _ _ _ _ h)
  · rw [if_pos hc] at h
    refine aw_iconst (pc := 14) dX12_firm_14 ⟨by decide, by decide⟩ ?_
    cases h
    exact aw_iret (pc := 15) rfl dX12_firm_15
theorem w_m_firm {l : Launch} {K : aw_K} (N d : Nat) (hd : 5 ≤ d) : ∀ (x1 x2 : Int) (w : aw_W) (y : Int) (v : aw_W), m_firm N x1 x2 w = some (y, v) → aw_Met l K MX12_firm (d) [.inr (.inr 49), .inl x1, .inl x2] w (some (.inl y), v) := by
  obtain ⟨e, rfl⟩ : ∃ e, d = e + 1 := ⟨d - 1, by omega⟩
  exact w_m_firm_d N e (by omega)
theorem dX12_gain_0 : decode cX12_gain 0 = .ok (.aload_n 0, 1) := by decide +kernel
theorem dX12_gain_1 : decode cX12_gain 1 = .ok (.iconst 0, 1) := by decide +kernel
theorem dX12_gain_2 : decode cX12_gain 2 = .ok (.putfield 99, 3) := by decide +kernel
theorem dX12_gain_5 : decode cX12_gain 5 = .ok (.aload_n 0, 1) := by decide +kernel
theorem dX12_gain_6 : decode cX12_gain 6 = .ok (.iload_n 2, 1) := by decide +kernel
theorem dX12_gain_7 : decode cX12_gain 7 = .ok (.invokevirtual 282, 3) := by decide +kernel
theorem dX12_gain_10 : decode cX12_gain 10 = .ok (.ifCond .eq 11, 3) := by decide +kernel
theorem dX12_gain_13 : decode cX12_gain 13 = .ok (.aload_n 0, 1) := by decide +kernel
theorem dX12_gain_14 : decode cX12_gain 14 = .ok (.iload_n 1, 1) := by decide +kernel
theorem dX12_gain_15 : decode cX12_gain 15 = .ok (.invokevirtual 342, 3) := by decide +kernel
theorem dX12_gain_18 : decode cX12_gain 18 = .ok (.ifCond .ne 9, 3) := by decide +kernel
theorem dX12_gain_21 : decode cX12_gain 21 = .ok (.ldc_w 315, 3) := by decide +kernel
theorem dX12_gain_24 : decode cX12_gain 24 = .ok (.goto 8, 3) := by decide +kernel
theorem dX12_gain_27 : decode cX12_gain 27 = .ok (.aload_n 0, 1) := by decide +kernel
theorem dX12_gain_28 : decode cX12_gain 28 = .ok (.iload_n 2, 1) := by decide +kernel
theorem dX12_gain_29 : decode cX12_gain 29 = .ok (.invokevirtual 348, 3) := by decide +kernel
theorem dX12_gain_32 : decode cX12_gain 32 = .ok (.ireturn, 1) := by decide +kernel
def m_gain_32 (N : Nat) (s0 : Int) (w : aw_W) : Option (Int × aw_W) :=
  some (s0, w)
theorem w_m_gain_32 {l : Launch} {K : aw_K} (N d : Nat) (hd : 3 ≤ d) : ∀ (s0 : Int) (w : aw_W) (y : Int) (v : aw_W), m_gain_32 N s0 w = some (y, v) → aw_AW l K MX12_gain (d + 1) 32 [] [.inl s0] w (some (.inl y), v) := by
  intro s0 w y v h
  unfold m_gain_32 at h
  cases h
  exact aw_iret (pc := 32) rfl dX12_gain_32
def m_gain_21 (N : Nat) (w : aw_W) : Option (Int × aw_W) :=
  m_gain_32 N (-1000000) w
theorem w_m_gain_21 {l : Launch} {K : aw_K} (N d : Nat) (hd : 3 ≤ d) : ∀ (w : aw_W) (y : Int) (v : aw_W), m_gain_21 N w = some (y, v) → aw_AW l K MX12_gain (d + 1) 21 [] [] w (some (.inl y), v) := by
  intro w y v h
  unfold m_gain_21 at h
  refine aw_ldcw (pc := 21) (x := (-1000000)) dX12_gain_21 cn_RX12_315 ⟨by decide, by decide⟩ ?_
  refine aw_goto (pc := 24) (tgt := 32) dX12_gain_24 (by decide) ?_
  exact aw_sel [] rfl (w_m_gain_32 N d hd  _ _ _ _ h)
def m_gain (N : Nat) (x1 x2 : Int) (w : aw_W) : Option (Int × aw_W) :=
  aw_b2 (m_isStriver N x2 (aw_up w 49 0 0)) fun r1 w1 =>
    if r1 = 0 then
      m_gain_21 N w1
    else
      aw_b2 (m_lay N x1 w1) fun r2 w2 =>
        if r2 = 0 then
          m_gain_21 N w2
        else
          aw_b2 (m_gainOf N x2 w2) fun r3 w3 =>
            m_gain_32 N r3 w3
theorem w_m_gain_d {l : Launch} {K : aw_K} (N d : Nat) (hd : 3 ≤ d) : ∀ (x1 x2 : Int) (w : aw_W) (y : Int) (v : aw_W), m_gain N x1 x2 w = some (y, v) → aw_Met l K MX12_gain (d + 1) [.inr (.inr 49), .inl x1, .inl x2] w (some (.inl y), v) := by
  intro x1 x2 w y v h
  unfold m_gain at h
  refine aw_enter rfl (Nat.le_of_ble_eq_true rfl) ?_
  show aw_AW l K MX12_gain (d + 1) 0 [(0, .inr (.inr 49)), (1, .inl x1), (2, .inl x2)] [] w (some (.inl y), v)
  refine aw_aload_n (pc := 0) (q := 0) dX12_gain_0 rfl ?_
  refine aw_iconst (pc := 1) dX12_gain_1 ⟨by decide, by decide⟩ ?_
  refine aw_puti (pc := 2) dX12_gain_2 fp_RX12_99 (by decide) rfl rfl ?_
  refine aw_aload_n (pc := 5) (q := 0) dX12_gain_5 rfl ?_
  refine aw_iload_n (pc := 6) (q := 2) dX12_gain_6 rfl ?_
  obtain ⟨r1, w1, h1, h⟩ := aw_b2s h
  refine aw_callV (pc := 7) (as := [.inl x2]) (st := []) (st' := [.inl r1]) dX12_gain_7 cv_RX12_282 (by decide) rfl rfl rfl rfl (Nat.le_of_ble_eq_true rfl) (w_m_isStriver N d (by omega) _ _ _ _ h1) rfl ?_
  refine aw_if_eq (pc := 10) (tgt := 21) dX12_gain_10 (by decide) (fun hc => ?_) (fun hc => ?_)
  · rw [if_pos hc] at h
    exact aw_sel [] rfl (w_m_gain_21 N d hd  _ _ _ h)
  · rw [if_neg hc] at h
    refine aw_aload_n (pc := 13) (q := 0) dX12_gain_13 rfl ?_
    refine aw_iload_n (pc := 14) (q := 1) dX12_gain_14 rfl ?_
    obtain ⟨r2, w2, h2, h⟩ := aw_b2s h
    refine aw_callV (pc := 15) (as := [.inl x1]) (st := []) (st' := [.inl r2]) dX12_gain_15 cv_RX12_342 (by decide) rfl rfl rfl rfl (Nat.le_of_ble_eq_true rfl) (w_m_lay N d (by omega) _ _ _ _ h2) rfl ?_
    refine aw_if_ne (pc := 18) (tgt := 27) dX12_gain_18 (by decide) (fun hc => ?_) (fun hc => ?_)
    · rw [if_neg hc] at h
      refine aw_aload_n (pc := 27) (q := 0) dX12_gain_27 rfl ?_
      refine aw_iload_n (pc := 28) (q := 2) dX12_gain_28 rfl ?_
      obtain ⟨r3, w3, h3, h⟩ := aw_b2s h
      refine aw_callV (pc := 29) (as := [.inl x2]) (st := []) (st' := [.inl r3]) dX12_gain_29 cv_RX12_348 (by decide) rfl rfl rfl rfl (Nat.le_of_ble_eq_true rfl) (w_m_gainOf N d (by omega) _ _ _ _ h3) rfl ?_
      exact aw_sel [] rfl (w_m_gain_32 N d hd  _ _ _ _ h)
    · rw [if_pos hc] at h
      exact aw_sel [] rfl (w_m_gain_21 N d hd  _ _ _ h)
theorem w_m_gain {l : Launch} {K : aw_K} (N d : Nat) (hd : 4 ≤ d) : ∀ (x1 x2 : Int) (w : aw_W) (y : Int) (v : aw_W), m_gain N x1 x2 w = some (y, v) → aw_Met l K MX12_gain (d) [.inr (.inr 49), .inl x1, .inl x2] w (some (.inl y), v) := by
  obtain ⟨e, rfl⟩ : ∃ e, d = e + 1 := ⟨d - 1, by omega⟩
  exact w_m_gain_d N e (by omega)
theorem dX12_honour_0 : decode cX12_honour 0 = .ok (.aload_n 0, 1) := by decide +kernel
theorem dX12_honour_1 : decode cX12_honour 1 = .ok (.iconst 0, 1) := by decide +kernel
theorem dX12_honour_2 : decode cX12_honour 2 = .ok (.putfield 99, 3) := by decide +kernel
theorem dX12_honour_5 : decode cX12_honour 5 = .ok (.aload_n 0, 1) := by decide +kernel
theorem dX12_honour_6 : decode cX12_honour 6 = .ok (.getfield 270, 3) := by decide +kernel
theorem dX12_honour_9 : decode cX12_honour 9 = .ok (.ifCond .eq 20, 3) := by decide +kernel
theorem dX12_honour_12 : decode cX12_honour 12 = .ok (.aload_n 0, 1) := by decide +kernel
theorem dX12_honour_13 : decode cX12_honour 13 = .ok (.getfield 273, 3) := by decide +kernel
theorem dX12_honour_16 : decode cX12_honour 16 = .ok (.bipush 40, 2) := by decide +kernel
theorem dX12_honour_18 : decode cX12_honour 18 = .ok (.if_icmp .eq 11, 3) := by decide +kernel
theorem dX12_honour_21 : decode cX12_honour 21 = .ok (.aload_n 0, 1) := by decide +kernel
theorem dX12_honour_22 : decode cX12_honour 22 = .ok (.iload_n 1, 1) := by decide +kernel
theorem dX12_honour_23 : decode cX12_honour 23 = .ok (.invokevirtual 342, 3) := by decide +kernel
theorem dX12_honour_26 : decode cX12_honour 26 = .ok (.ifCond .ne 5, 3) := by decide +kernel
theorem dX12_honour_29 : decode cX12_honour 29 = .ok (.iconst (-1), 1) := by decide +kernel
theorem dX12_honour_30 : decode cX12_honour 30 = .ok (.ireturn, 1) := by decide +kernel
theorem dX12_honour_31 : decode cX12_honour 31 = .ok (.aload_n 0, 1) := by decide +kernel
theorem dX12_honour_32 : decode cX12_honour 32 = .ok (.getfield 87, 3) := by decide +kernel
theorem dX12_honour_35 : decode cX12_honour 35 = .ok (.aload_n 0, 1) := by decide +kernel
theorem dX12_honour_36 : decode cX12_honour 36 = .ok (.getfield 273, 3) := by decide +kernel
theorem dX12_honour_39 : decode cX12_honour 39 = .ok (.iload_n 1, 1) := by decide +kernel
theorem dX12_honour_40 : decode cX12_honour 40 = .ok (.iastore, 1) := by decide +kernel
theorem dX12_honour_41 : decode cX12_honour 41 = .ok (.aload_n 0, 1) := by decide +kernel
theorem dX12_honour_42 : decode cX12_honour 42 = .ok (.dup, 1) := by decide +kernel
theorem dX12_honour_43 : decode cX12_honour 43 = .ok (.getfield 273, 3) := by decide +kernel
theorem dX12_honour_46 : decode cX12_honour 46 = .ok (.iconst 1, 1) := by decide +kernel
theorem dX12_honour_47 : decode cX12_honour 47 = .ok (.iadd, 1) := by decide +kernel
theorem dX12_honour_48 : decode cX12_honour 48 = .ok (.putfield 273, 3) := by decide +kernel
theorem dX12_honour_51 : decode cX12_honour 51 = .ok (.aload_n 0, 1) := by decide +kernel
theorem dX12_honour_52 : decode cX12_honour 52 = .ok (.getfield 273, 3) := by decide +kernel
theorem dX12_honour_55 : decode cX12_honour 55 = .ok (.ireturn, 1) := by decide +kernel
def m_honour_29 (N : Nat) (w : aw_W) : Option (Int × aw_W) :=
  some ((-1), w)
theorem w_m_honour_29 {l : Launch} {K : aw_K} (N d : Nat) (hd : 0 ≤ d) : ∀ (w : aw_W) (y : Int) (v : aw_W), m_honour_29 N w = some (y, v) → aw_AW l K MX12_honour (d + 1) 29 [] [] w (some (.inl y), v) := by
  intro w y v h
  unfold m_honour_29 at h
  refine aw_iconst (pc := 29) dX12_honour_29 ⟨by decide, by decide⟩ ?_
  cases h
  exact aw_iret (pc := 30) rfl dX12_honour_30
def m_honour (N : Nat) (x1 : Int) (w : aw_W) : Option (Int × aw_W) :=
  if (w 49 22) = 0 then
    m_honour_29 N (aw_up w 49 0 0)
  else
    if (w 49 43) = 40 then
      m_honour_29 N (aw_up w 49 0 0)
    else
      aw_b2 (m_lay N x1 (aw_up w 49 0 0)) fun r1 w1 =>
        if r1 = 0 then
          m_honour_29 N w1
        else
          if 0 ≤ (w1 49 43) ∧ (w1 49 43) < 40 then
            some (aw_w ((w1 49 43) + 1), (aw_up (aw_up w1 69 ((w1 49 43).toNat) x1) 49 43 (aw_w ((w1 49 43) + 1))))
          else none
theorem w_m_honour_d {l : Launch} {K : aw_K} (N d : Nat) (hd : 0 ≤ d) : ∀ (x1 : Int) (w : aw_W) (y : Int) (v : aw_W), m_honour N x1 w = some (y, v) → aw_Met l K MX12_honour (d + 1) [.inr (.inr 49), .inl x1] w (some (.inl y), v) := by
  intro x1 w y v h
  unfold m_honour at h
  refine aw_enter rfl (Nat.le_of_ble_eq_true rfl) ?_
  show aw_AW l K MX12_honour (d + 1) 0 [(0, .inr (.inr 49)), (1, .inl x1)] [] w (some (.inl y), v)
  refine aw_aload_n (pc := 0) (q := 0) dX12_honour_0 rfl ?_
  refine aw_iconst (pc := 1) dX12_honour_1 ⟨by decide, by decide⟩ ?_
  refine aw_puti (pc := 2) dX12_honour_2 fp_RX12_99 (by decide) rfl rfl ?_
  refine aw_aload_n (pc := 5) (q := 0) dX12_honour_5 rfl ?_
  refine aw_getf (pc := 6) (v := .inl (w 49 22)) dX12_honour_6 fl_RX12_270 (by decide) rfl rfl rfl ?_
  refine aw_if_eq (pc := 9) (tgt := 29) dX12_honour_9 (by decide) (fun hc => ?_) (fun hc => ?_)
  · rw [if_pos hc] at h
    exact aw_sel [] rfl (w_m_honour_29 N d hd  _ _ _ h)
  · rw [if_neg hc] at h
    refine aw_aload_n (pc := 12) (q := 0) dX12_honour_12 rfl ?_
    refine aw_getf (pc := 13) (v := .inl (w 49 43)) dX12_honour_13 fl_RX12_273 (by decide) rfl rfl rfl ?_
    refine aw_bipush (pc := 16) dX12_honour_16 (by decide) ⟨by decide, by decide⟩ ?_
    refine aw_icmp_eq (pc := 18) (tgt := 29) dX12_honour_18 (by decide) (fun hc => ?_) (fun hc => ?_)
    · rw [if_pos hc] at h
      exact aw_sel [] rfl (w_m_honour_29 N d hd  _ _ _ h)
    · rw [if_neg hc] at h
      refine aw_aload_n (pc := 21) (q := 0) dX12_honour_21 rfl ?_
      refine aw_iload_n (pc := 22) (q := 1) dX12_honour_22 rfl ?_
      obtain ⟨r1, w1, h1, h⟩ := aw_b2s h
      refine aw_callV (pc := 23) (as := [.inl x1]) (st := []) (st' := [.inl r1]) dX12_honour_23 cv_RX12_342 (by decide) rfl rfl rfl rfl (Nat.le_of_ble_eq_true rfl) (w_m_lay N d (by omega) _ _ _ _ h1) rfl ?_
      refine aw_if_ne (pc := 26) (tgt := 31) dX12_honour_26 (by decide) (fun hc => ?_) (fun hc => ?_)
      · rw [if_neg hc] at h
        refine aw_aload_n (pc := 31) (q := 0) dX12_honour_31 rfl ?_
        refine aw_getf (pc := 32) (v := .inr (.inr 69)) dX12_honour_32 fl_RX12_87 (by decide) rfl rfl rfl ?_
        refine aw_aload_n (pc := 35) (q := 0) dX12_honour_35 rfl ?_
        refine aw_getf (pc := 36) (v := .inl (w1 49 43)) dX12_honour_36 fl_RX12_273 (by decide) rfl rfl rfl ?_
        refine aw_iload_n (pc := 39) (q := 1) dX12_honour_39 rfl ?_
        obtain ⟨hb, h⟩ := aw_cks h
        refine aw_iast (pc := 40) dX12_honour_40 rfl hb.1 hb.2 ?_
        refine aw_aload_n (pc := 41) (q := 0) dX12_honour_41 rfl ?_
        refine aw_dup (pc := 42) dX12_honour_42 rfl ?_
        refine aw_getf (pc := 43) (v := .inl (w1 49 43)) dX12_honour_43 fl_RX12_273 (by decide) rfl rfl rfl ?_
        refine aw_iconst (pc := 46) dX12_honour_46 ⟨by decide, by decide⟩ ?_
        refine aw_iadd (pc := 47) dX12_honour_47 ?_
        refine aw_puti (pc := 48) dX12_honour_48 fp_RX12_273 (by decide) rfl rfl ?_
        refine aw_aload_n (pc := 51) (q := 0) dX12_honour_51 rfl ?_
        refine aw_getf (pc := 52) (v := .inl (aw_w ((w1 49 43) + 1))) dX12_honour_52 fl_RX12_273 (by decide) rfl rfl rfl ?_
        cases h
        exact aw_iret (pc := 55) rfl dX12_honour_55
      · rw [if_pos hc] at h
        exact aw_sel [] rfl (w_m_honour_29 N d hd  _ _ _ h)
theorem w_m_honour {l : Launch} {K : aw_K} (N d : Nat) (hd : 1 ≤ d) : ∀ (x1 : Int) (w : aw_W) (y : Int) (v : aw_W), m_honour N x1 w = some (y, v) → aw_Met l K MX12_honour (d) [.inr (.inr 49), .inl x1] w (some (.inl y), v) := by
  obtain ⟨e, rfl⟩ : ∃ e, d = e + 1 := ⟨d - 1, by omega⟩
  exact w_m_honour_d N e (by omega)
theorem dX12_hope_0 : decode cX12_hope 0 = .ok (.aload_n 0, 1) := by decide +kernel
theorem dX12_hope_1 : decode cX12_hope 1 = .ok (.iconst 0, 1) := by decide +kernel
theorem dX12_hope_2 : decode cX12_hope 2 = .ok (.putfield 99, 3) := by decide +kernel
theorem dX12_hope_5 : decode cX12_hope 5 = .ok (.aload_n 0, 1) := by decide +kernel
theorem dX12_hope_6 : decode cX12_hope 6 = .ok (.invokevirtual 360, 3) := by decide +kernel
theorem dX12_hope_9 : decode cX12_hope 9 = .ok (.ifCond .eq 37, 3) := by decide +kernel
theorem dX12_hope_12 : decode cX12_hope 12 = .ok (.aload_n 0, 1) := by decide +kernel
theorem dX12_hope_13 : decode cX12_hope 13 = .ok (.iload_n 1, 1) := by decide +kernel
theorem dX12_hope_14 : decode cX12_hope 14 = .ok (.invokevirtual 282, 3) := by decide +kernel
theorem dX12_hope_17 : decode cX12_hope 17 = .ok (.ifCond .eq 29, 3) := by decide +kernel
theorem dX12_hope_20 : decode cX12_hope 20 = .ok (.iload_n 2, 1) := by decide +kernel
theorem dX12_hope_21 : decode cX12_hope 21 = .ok (.i2l, 1) := by decide +kernel
theorem dX12_hope_22 : decode cX12_hope 22 = .ok (.lconst 0, 1) := by decide +kernel
theorem dX12_hope_23 : decode cX12_hope 23 = .ok (.aload_n 0, 1) := by decide +kernel
theorem dX12_hope_24 : decode cX12_hope 24 = .ok (.getfield 43, 3) := by decide +kernel
theorem dX12_hope_27 : decode cX12_hope 27 = .ok (.iconst 4, 1) := by decide +kernel
theorem dX12_hope_28 : decode cX12_hope 28 = .ok (.iaload, 1) := by decide +kernel
theorem dX12_hope_29 : decode cX12_hope 29 = .ok (.i2l, 1) := by decide +kernel
theorem dX12_hope_30 : decode cX12_hope 30 = .ok (.invokestatic 227, 3) := by decide +kernel
theorem dX12_hope_33 : decode cX12_hope 33 = .ok (.ifCond .eq 13, 3) := by decide +kernel
theorem dX12_hope_36 : decode cX12_hope 36 = .ok (.iload_n 3, 1) := by decide +kernel
theorem dX12_hope_37 : decode cX12_hope 37 = .ok (.i2l, 1) := by decide +kernel
theorem dX12_hope_38 : decode cX12_hope 38 = .ok (.lconst 0, 1) := by decide +kernel
theorem dX12_hope_39 : decode cX12_hope 39 = .ok (.lconst 1, 1) := by decide +kernel
theorem dX12_hope_40 : decode cX12_hope 40 = .ok (.invokestatic 227, 3) := by decide +kernel
theorem dX12_hope_43 : decode cX12_hope 43 = .ok (.ifCond .ne 7, 3) := by decide +kernel
theorem dX12_hope_46 : decode cX12_hope 46 = .ok (.ldc_w 315, 3) := by decide +kernel
theorem dX12_hope_49 : decode cX12_hope 49 = .ok (.ireturn, 1) := by decide +kernel
theorem dX12_hope_50 : decode cX12_hope 50 = .ok (.aload_n 0, 1) := by decide +kernel
theorem dX12_hope_51 : decode cX12_hope 51 = .ok (.iload_n 1, 1) := by decide +kernel
theorem dX12_hope_52 : decode cX12_hope 52 = .ok (.iload_n 2, 1) := by decide +kernel
theorem dX12_hope_53 : decode cX12_hope 53 = .ok (.invokevirtual 436, 3) := by decide +kernel
theorem dX12_hope_56 : decode cX12_hope 56 = .ok (.iload_n 3, 1) := by decide +kernel
theorem dX12_hope_57 : decode cX12_hope 57 = .ok (.ifCond .ne 10, 3) := by decide +kernel
theorem dX12_hope_60 : decode cX12_hope 60 = .ok (.aload_n 0, 1) := by decide +kernel
theorem dX12_hope_61 : decode cX12_hope 61 = .ok (.getfield 427, 3) := by decide +kernel
theorem dX12_hope_64 : decode cX12_hope 64 = .ok (.goto 7, 3) := by decide +kernel
theorem dX12_hope_67 : decode cX12_hope 67 = .ok (.aload_n 0, 1) := by decide +kernel
theorem dX12_hope_68 : decode cX12_hope 68 = .ok (.getfield 430, 3) := by decide +kernel
theorem dX12_hope_71 : decode cX12_hope 71 = .ok (.ireturn, 1) := by decide +kernel
def m_hope_46 (N : Nat) (w : aw_W) : Option (Int × aw_W) :=
  some ((-1000000), w)
theorem w_m_hope_46 {l : Launch} {K : aw_K} (N d : Nat) (hd : 64 ≤ d) : ∀ (w : aw_W) (y : Int) (v : aw_W), m_hope_46 N w = some (y, v) → aw_AW l K MX12_hope (d + 1) 46 [] [] w (some (.inl y), v) := by
  intro w y v h
  unfold m_hope_46 at h
  refine aw_ldcw (pc := 46) (x := (-1000000)) dX12_hope_46 cn_RX12_315 ⟨by decide, by decide⟩ ?_
  cases h
  exact aw_iret (pc := 49) rfl dX12_hope_49
def m_hope_71 (N : Nat) (s0 : Int) (w : aw_W) : Option (Int × aw_W) :=
  some (s0, w)
theorem w_m_hope_71 {l : Launch} {K : aw_K} (N d : Nat) (hd : 64 ≤ d) : ∀ (s0 : Int) (w : aw_W) (y : Int) (v : aw_W), m_hope_71 N s0 w = some (y, v) → aw_AW l K MX12_hope (d + 1) 71 [] [.inl s0] w (some (.inl y), v) := by
  intro s0 w y v h
  unfold m_hope_71 at h
  cases h
  exact aw_iret (pc := 71) rfl dX12_hope_71
def m_hope (N : Nat) (x1 x2 x3 : Int) (w : aw_W) : Option (Int × aw_W) :=
  aw_b2 (m_areFew N (aw_up w 49 0 0)) fun r1 w1 =>
    if r1 = 0 then
      m_hope_46 N w1
    else
      aw_b2 (m_isStriver N x1 w1) fun r2 w2 =>
        if r2 = 0 then
          m_hope_46 N w2
        else
          aw_b2 (m_isIn N x2 0 (w2 56 4) w2) fun r3 w3 =>
            if r3 = 0 then
              m_hope_46 N w3
            else
              aw_b2 (m_isIn N x3 0 1 w3) fun r4 w4 =>
                if r4 = 0 then
                  m_hope_46 N w4
                else
                  aw_b1 (m_hopes N x1 x2 w4) fun w5 =>
                    if x3 = 0 then
                      m_hope_71 N (w5 49 45) w5
                    else
                      m_hope_71 N (w5 49 46) w5
theorem w_m_hope_d {l : Launch} {K : aw_K} (N d : Nat) (hd : 64 ≤ d) : ∀ (x1 x2 x3 : Int) (w : aw_W) (y : Int) (v : aw_W), m_hope N x1 x2 x3 w = some (y, v) → aw_Met l K MX12_hope (d + 1) [.inr (.inr 49), .inl x1, .inl x2, .inl x3] w (some (.inl y), v) := by
  intro x1 x2 x3 w y v h
  unfold m_hope at h
  refine aw_enter rfl (Nat.le_of_ble_eq_true rfl) ?_
  show aw_AW l K MX12_hope (d + 1) 0 [(0, .inr (.inr 49)), (1, .inl x1), (2, .inl x2), (3, .inl x3)] [] w (some (.inl y), v)
  refine aw_aload_n (pc := 0) (q := 0) dX12_hope_0 rfl ?_
  refine aw_iconst (pc := 1) dX12_hope_1 ⟨by decide, by decide⟩ ?_
  refine aw_puti (pc := 2) dX12_hope_2 fp_RX12_99 (by decide) rfl rfl ?_
  refine aw_aload_n (pc := 5) (q := 0) dX12_hope_5 rfl ?_
  obtain ⟨r1, w1, h1, h⟩ := aw_b2s h
  refine aw_callV (pc := 6) (as := []) (st := []) (st' := [.inl r1]) dX12_hope_6 cv_RX12_360 (by decide) rfl rfl rfl rfl (Nat.le_of_ble_eq_true rfl) (w_m_areFew N d (by omega) _ _ _ h1) rfl ?_
  refine aw_if_eq (pc := 9) (tgt := 46) dX12_hope_9 (by decide) (fun hc => ?_) (fun hc => ?_)
  · rw [if_pos hc] at h
    exact aw_sel [] rfl (w_m_hope_46 N d hd  _ _ _ h)
  · rw [if_neg hc] at h
    refine aw_aload_n (pc := 12) (q := 0) dX12_hope_12 rfl ?_
    refine aw_iload_n (pc := 13) (q := 1) dX12_hope_13 rfl ?_
    obtain ⟨r2, w2, h2, h⟩ := aw_b2s h
    refine aw_callV (pc := 14) (as := [.inl x1]) (st := []) (st' := [.inl r2]) dX12_hope_14 cv_RX12_282 (by decide) rfl rfl rfl rfl (Nat.le_of_ble_eq_true rfl) (w_m_isStriver N d (by omega) _ _ _ _ h2) rfl ?_
    refine aw_if_eq (pc := 17) (tgt := 46) dX12_hope_17 (by decide) (fun hc => ?_) (fun hc => ?_)
    · rw [if_pos hc] at h
      exact aw_sel [] rfl (w_m_hope_46 N d hd  _ _ _ h)
    · rw [if_neg hc] at h
      refine aw_iload_n (pc := 20) (q := 2) dX12_hope_20 rfl ?_
      refine aw_i2l (pc := 21) dX12_hope_21 ?_
      refine aw_lconst (pc := 22) (x := 0) dX12_hope_22 (by decide) ⟨by decide, by decide⟩ ?_
      refine aw_aload_n (pc := 23) (q := 0) dX12_hope_23 rfl ?_
      refine aw_getf (pc := 24) (v := .inr (.inr 56)) dX12_hope_24 fl_RX12_43 (by decide) rfl rfl rfl ?_
      refine aw_iconst (pc := 27) dX12_hope_27 ⟨by decide, by decide⟩ ?_
      refine aw_ialdv (pc := 28) (v := w2 56 4) dX12_hope_28 rfl (by decide) (by decide) rfl ?_
      refine aw_i2l (pc := 29) dX12_hope_29 ?_
      obtain ⟨r3, w3, h3, h⟩ := aw_b2s h
      refine aw_callS (pc := 30) (as := [.inr (.inl x2), .inr (.inl 0), .inr (.inl (w2 56 4))]) (st := []) (st' := [.inl r3]) dX12_hope_30 cs_RX12_227 rfl rfl (Nat.le_of_ble_eq_true rfl) (w_m_isIn N d (by omega) _ _ _ _ _ _ h3) rfl ?_
      refine aw_if_eq (pc := 33) (tgt := 46) dX12_hope_33 (by decide) (fun hc => ?_) (fun hc => ?_)
      · rw [if_pos hc] at h
        exact aw_sel [] rfl (w_m_hope_46 N d hd  _ _ _ h)
      · rw [if_neg hc] at h
        refine aw_iload_n (pc := 36) (q := 3) dX12_hope_36 rfl ?_
        refine aw_i2l (pc := 37) dX12_hope_37 ?_
        refine aw_lconst (pc := 38) (x := 0) dX12_hope_38 (by decide) ⟨by decide, by decide⟩ ?_
        refine aw_lconst (pc := 39) (x := 1) dX12_hope_39 (by decide) ⟨by decide, by decide⟩ ?_
        obtain ⟨r4, w4, h4, h⟩ := aw_b2s h
        refine aw_callS (pc := 40) (as := [.inr (.inl x3), .inr (.inl 0), .inr (.inl 1)]) (st := []) (st' := [.inl r4]) dX12_hope_40 cs_RX12_227 rfl rfl (Nat.le_of_ble_eq_true rfl) (w_m_isIn N d (by omega) _ _ _ _ _ _ h4) rfl ?_
        refine aw_if_ne (pc := 43) (tgt := 50) dX12_hope_43 (by decide) (fun hc => ?_) (fun hc => ?_)
        · rw [if_neg hc] at h
          refine aw_aload_n (pc := 50) (q := 0) dX12_hope_50 rfl ?_
          refine aw_iload_n (pc := 51) (q := 1) dX12_hope_51 rfl ?_
          refine aw_iload_n (pc := 52) (q := 2) dX12_hope_52 rfl ?_
          obtain ⟨w5, h5, h⟩ := aw_b1s h
          refine aw_callV (pc := 53) (as := [.inl x1, .inl x2]) (st := []) (st' := []) dX12_hope_53 cv_RX12_436 (by decide) rfl rfl rfl rfl (Nat.le_of_ble_eq_true rfl) (w_m_hopes N d (by omega) _ _ _ _ h5) rfl ?_
          refine aw_iload_n (pc := 56) (q := 3) dX12_hope_56 rfl ?_
          refine aw_if_ne (pc := 57) (tgt := 67) dX12_hope_57 (by decide) (fun hc => ?_) (fun hc => ?_)
          · rw [if_neg hc] at h
            refine aw_aload_n (pc := 67) (q := 0) dX12_hope_67 rfl ?_
            refine aw_getf (pc := 68) (v := .inl (w5 49 46)) dX12_hope_68 fl_RX12_430 (by decide) rfl rfl rfl ?_
            exact aw_sel [] rfl (w_m_hope_71 N d hd  _ _ _ _ h)
          · rw [if_pos hc] at h
            refine aw_aload_n (pc := 60) (q := 0) dX12_hope_60 rfl ?_
            refine aw_getf (pc := 61) (v := .inl (w5 49 45)) dX12_hope_61 fl_RX12_427 (by decide) rfl rfl rfl ?_
            refine aw_goto (pc := 64) (tgt := 71) dX12_hope_64 (by decide) ?_
            exact aw_sel [] rfl (w_m_hope_71 N d hd  _ _ _ _ h)
        · rw [if_pos hc] at h
          exact aw_sel [] rfl (w_m_hope_46 N d hd  _ _ _ h)
theorem w_m_hope {l : Launch} {K : aw_K} (N d : Nat) (hd : 65 ≤ d) : ∀ (x1 x2 x3 : Int) (w : aw_W) (y : Int) (v : aw_W), m_hope N x1 x2 x3 w = some (y, v) → aw_Met l K MX12_hope (d) [.inr (.inr 49), .inl x1, .inl x2, .inl x3] w (some (.inl y), v) := by
  obtain ⟨e, rfl⟩ : ∃ e, d = e + 1 := ⟨d - 1, by omega⟩
  exact w_m_hope_d N e (by omega)
theorem dX12_image_0 : decode cX12_image 0 = .ok (.aload_n 0, 1) := by decide +kernel
theorem dX12_image_1 : decode cX12_image 1 = .ok (.iconst 0, 1) := by decide +kernel
theorem dX12_image_2 : decode cX12_image 2 = .ok (.putfield 99, 3) := by decide +kernel
theorem dX12_image_5 : decode cX12_image 5 = .ok (.aload_n 0, 1) := by decide +kernel
theorem dX12_image_6 : decode cX12_image 6 = .ok (.getfield 270, 3) := by decide +kernel
theorem dX12_image_9 : decode cX12_image 9 = .ok (.ifCond .ne 5, 3) := by decide +kernel
theorem dX12_image_12 : decode cX12_image 12 = .ok (.iconst (-1), 1) := by decide +kernel
theorem dX12_image_13 : decode cX12_image 13 = .ok (.ireturn, 1) := by decide +kernel
theorem dX12_image_14 : decode cX12_image 14 = .ok (.iconst 0, 1) := by decide +kernel
theorem dX12_image_15 : decode cX12_image 15 = .ok (.istore_n 1, 1) := by decide +kernel
theorem dX12_image_16 : decode cX12_image 16 = .ok (.iload_n 1, 1) := by decide +kernel
theorem dX12_image_17 : decode cX12_image 17 = .ok (.bipush 40, 2) := by decide +kernel
theorem dX12_image_19 : decode cX12_image 19 = .ok (.if_icmp .ge 21, 3) := by decide +kernel
theorem dX12_image_22 : decode cX12_image 22 = .ok (.aload_n 0, 1) := by decide +kernel
theorem dX12_image_23 : decode cX12_image 23 = .ok (.getfield 90, 3) := by decide +kernel
theorem dX12_image_26 : decode cX12_image 26 = .ok (.iload_n 1, 1) := by decide +kernel
theorem dX12_image_27 : decode cX12_image 27 = .ok (.aload_n 0, 1) := by decide +kernel
theorem dX12_image_28 : decode cX12_image 28 = .ok (.getfield 87, 3) := by decide +kernel
theorem dX12_image_31 : decode cX12_image 31 = .ok (.iload_n 1, 1) := by decide +kernel
theorem dX12_image_32 : decode cX12_image 32 = .ok (.iaload, 1) := by decide +kernel
theorem dX12_image_33 : decode cX12_image 33 = .ok (.iastore, 1) := by decide +kernel
theorem dX12_image_34 : decode cX12_image 34 = .ok (.iinc 1 1, 3) := by decide +kernel
theorem dX12_image_37 : decode cX12_image 37 = .ok (.goto (-21), 3) := by decide +kernel
theorem dX12_image_40 : decode cX12_image 40 = .ok (.iconst 0, 1) := by decide +kernel
theorem dX12_image_41 : decode cX12_image 41 = .ok (.istore_n 1, 1) := by decide +kernel
theorem dX12_image_42 : decode cX12_image 42 = .ok (.iload_n 1, 1) := by decide +kernel
theorem dX12_image_43 : decode cX12_image 43 = .ok (.bipush 6, 2) := by decide +kernel
theorem dX12_image_45 : decode cX12_image 45 = .ok (.if_icmp .ge 21, 3) := by decide +kernel
theorem dX12_image_48 : decode cX12_image 48 = .ok (.aload_n 0, 1) := by decide +kernel
theorem dX12_image_49 : decode cX12_image 49 = .ok (.getfield 93, 3) := by decide +kernel
theorem dX12_image_52 : decode cX12_image 52 = .ok (.iload_n 1, 1) := by decide +kernel
theorem dX12_image_53 : decode cX12_image 53 = .ok (.aload_n 0, 1) := by decide +kernel
theorem dX12_image_54 : decode cX12_image 54 = .ok (.getfield 49, 3) := by decide +kernel
theorem dX12_image_57 : decode cX12_image 57 = .ok (.iload_n 1, 1) := by decide +kernel
theorem dX12_image_58 : decode cX12_image 58 = .ok (.iaload, 1) := by decide +kernel
theorem dX12_image_59 : decode cX12_image 59 = .ok (.iastore, 1) := by decide +kernel
theorem dX12_image_60 : decode cX12_image 60 = .ok (.iinc 1 1, 3) := by decide +kernel
theorem dX12_image_63 : decode cX12_image 63 = .ok (.goto (-21), 3) := by decide +kernel
theorem dX12_image_66 : decode cX12_image 66 = .ok (.iconst 0, 1) := by decide +kernel
theorem dX12_image_67 : decode cX12_image 67 = .ok (.istore_n 1, 1) := by decide +kernel
theorem dX12_image_68 : decode cX12_image 68 = .ok (.iload_n 1, 1) := by decide +kernel
theorem dX12_image_69 : decode cX12_image 69 = .ok (.iconst 5, 1) := by decide +kernel
theorem dX12_image_70 : decode cX12_image 70 = .ok (.if_icmp .ge 21, 3) := by decide +kernel
theorem dX12_image_73 : decode cX12_image 73 = .ok (.aload_n 0, 1) := by decide +kernel
theorem dX12_image_74 : decode cX12_image 74 = .ok (.getfield 96, 3) := by decide +kernel
theorem dX12_image_77 : decode cX12_image 77 = .ok (.iload_n 1, 1) := by decide +kernel
theorem dX12_image_78 : decode cX12_image 78 = .ok (.aload_n 0, 1) := by decide +kernel
theorem dX12_image_79 : decode cX12_image 79 = .ok (.getfield 43, 3) := by decide +kernel
theorem dX12_image_82 : decode cX12_image 82 = .ok (.iload_n 1, 1) := by decide +kernel
theorem dX12_image_83 : decode cX12_image 83 = .ok (.iaload, 1) := by decide +kernel
theorem dX12_image_84 : decode cX12_image 84 = .ok (.iastore, 1) := by decide +kernel
theorem dX12_image_85 : decode cX12_image 85 = .ok (.iinc 1 1, 3) := by decide +kernel
theorem dX12_image_88 : decode cX12_image 88 = .ok (.goto (-20), 3) := by decide +kernel
theorem dX12_image_91 : decode cX12_image 91 = .ok (.aload_n 0, 1) := by decide +kernel
theorem dX12_image_92 : decode cX12_image 92 = .ok (.aload_n 0, 1) := by decide +kernel
theorem dX12_image_93 : decode cX12_image 93 = .ok (.getfield 273, 3) := by decide +kernel
theorem dX12_image_96 : decode cX12_image 96 = .ok (.putfield 442, 3) := by decide +kernel
theorem dX12_image_99 : decode cX12_image 99 = .ok (.aload_n 0, 1) := by decide +kernel
theorem dX12_image_100 : decode cX12_image 100 = .ok (.iconst 1, 1) := by decide +kernel
theorem dX12_image_101 : decode cX12_image 101 = .ok (.putfield 276, 3) := by decide +kernel
theorem dX12_image_104 : decode cX12_image 104 = .ok (.aload_n 0, 1) := by decide +kernel
theorem dX12_image_105 : decode cX12_image 105 = .ok (.getfield 273, 3) := by decide +kernel
theorem dX12_image_108 : decode cX12_image 108 = .ok (.ireturn, 1) := by decide +kernel
def m_image_91 (N : Nat) (w : aw_W) : Option (Int × aw_W) :=
  some (w 49 43, (aw_up (aw_up w 49 50 (w 49 43)) 49 51 1))
theorem w_m_image_91 {l : Launch} {K : aw_K} (N d : Nat) : ∀ (w : aw_W) (y : Int) (v : aw_W), m_image_91 N w = some (y, v) → aw_AW l K MX12_image (d) 91 [(0, .inr (.inr 49))] [] w (some (.inl y), v) := by
  intro w y v h
  unfold m_image_91 at h
  refine aw_aload_n (pc := 91) (q := 0) dX12_image_91 rfl ?_
  refine aw_aload_n (pc := 92) (q := 0) dX12_image_92 rfl ?_
  refine aw_getf (pc := 93) (v := .inl (w 49 43)) dX12_image_93 fl_RX12_273 (by decide) rfl rfl rfl ?_
  refine aw_puti (pc := 96) dX12_image_96 fp_RX12_442 (by decide) rfl rfl ?_
  refine aw_aload_n (pc := 99) (q := 0) dX12_image_99 rfl ?_
  refine aw_iconst (pc := 100) dX12_image_100 ⟨by decide, by decide⟩ ?_
  refine aw_putz (pc := 101) dX12_image_101 fp_RX12_276 (by decide) rfl rfl (by decide) ?_
  refine aw_aload_n (pc := 104) (q := 0) dX12_image_104 rfl ?_
  refine aw_getf (pc := 105) (v := .inl (w 49 43)) dX12_image_105 fl_RX12_273 (by decide) rfl rfl rfl ?_
  cases h
  exact aw_iret (pc := 108) rfl dX12_image_108
def m_image_68 (N : Nat) : Nat → Int → aw_W → Option (Int × aw_W)
  | 0, _, _ => none
  | n + 1, x1, w =>
    if 5 ≤ x1 then
      m_image_91 N w
    else
      if 0 ≤ x1 ∧ x1 < 5 then
        if 0 ≤ x1 ∧ x1 < 5 then
          m_image_68 N n (aw_w (x1 + 1)) (aw_up w 72 x1.toNat (w 56 x1.toNat))
        else none
      else none
theorem w_m_image_68 {l : Launch} {K : aw_K} (N d : Nat) : ∀ (n : Nat) (x1 : Int) (w : aw_W) (y : Int) (v : aw_W), m_image_68 N n x1 w = some (y, v) → aw_AW l K MX12_image (d) 68 [(0, .inr (.inr 49)), (1, .inl x1)] [] w (some (.inl y), v) := by
  intro n
  induction n with
  | zero => intro x1 w y v h; rw [m_image_68] at h; cases h
  | succ n ih =>
    intro x1 w y v h
    rw [m_image_68] at h
    refine aw_iload_n (pc := 68) (q := 1) dX12_image_68 rfl ?_
    refine aw_iconst (pc := 69) dX12_image_69 ⟨by decide, by decide⟩ ?_
    refine aw_icmp_ge (pc := 70) (tgt := 91) dX12_image_70 (by decide) (fun hc => ?_) (fun hc => ?_)
    · rw [if_pos hc] at h
      exact aw_sel [0] rfl (w_m_image_91 N d  _ _ _ h)
    · rw [if_neg hc] at h
      refine aw_aload_n (pc := 73) (q := 0) dX12_image_73 rfl ?_
      refine aw_getf (pc := 74) (v := .inr (.inr 72)) dX12_image_74 fl_RX12_96 (by decide) rfl rfl rfl ?_
      refine aw_iload_n (pc := 77) (q := 1) dX12_image_77 rfl ?_
      refine aw_aload_n (pc := 78) (q := 0) dX12_image_78 rfl ?_
      refine aw_getf (pc := 79) (v := .inr (.inr 56)) dX12_image_79 fl_RX12_43 (by decide) rfl rfl rfl ?_
      refine aw_iload_n (pc := 82) (q := 1) dX12_image_82 rfl ?_
      obtain ⟨hb, h⟩ := aw_cks h
      refine aw_ialdv (pc := 83) (v := w 56 x1.toNat) dX12_image_83 rfl hb.1 hb.2 rfl ?_
      obtain ⟨hb, h⟩ := aw_cks h
      refine aw_iast (pc := 84) dX12_image_84 rfl hb.1 hb.2 ?_
      refine aw_iinc (pc := 85) (q := 1) (ls' := [(1, .inl (aw_w (x1 + 1))), (0, .inr (.inr 49))]) dX12_image_85 rfl (by decide) rfl ?_
      refine aw_goto (pc := 88) (tgt := 68) dX12_image_88 (by decide) ?_
      exact aw_sel [1, 0] rfl (ih _ _ _ _ h)
def m_image_66 (N : Nat) (w : aw_W) : Option (Int × aw_W) :=
  m_image_68 N N 0 w
theorem w_m_image_66 {l : Launch} {K : aw_K} (N d : Nat) : ∀ (w : aw_W) (y : Int) (v : aw_W), m_image_66 N w = some (y, v) → aw_AW l K MX12_image (d) 66 [(0, .inr (.inr 49))] [] w (some (.inl y), v) := by
  intro w y v h
  unfold m_image_66 at h
  refine aw_iconst (pc := 66) dX12_image_66 ⟨by decide, by decide⟩ ?_
  refine aw_istore_n (pc := 67) (ls' := [(1, .inl 0), (0, .inr (.inr 49))]) dX12_image_67 (by decide) rfl ?_
  exact aw_sel [1, 0] rfl (w_m_image_68 N d  N _ _ _ _ h)
def m_image_42 (N : Nat) : Nat → Int → aw_W → Option (Int × aw_W)
  | 0, _, _ => none
  | n + 1, x1, w =>
    if 6 ≤ x1 then
      m_image_66 N w
    else
      if 0 ≤ x1 ∧ x1 < 6 then
        if 0 ≤ x1 ∧ x1 < 6 then
          m_image_42 N n (aw_w (x1 + 1)) (aw_up w 71 x1.toNat (w 58 x1.toNat))
        else none
      else none
theorem w_m_image_42 {l : Launch} {K : aw_K} (N d : Nat) : ∀ (n : Nat) (x1 : Int) (w : aw_W) (y : Int) (v : aw_W), m_image_42 N n x1 w = some (y, v) → aw_AW l K MX12_image (d) 42 [(0, .inr (.inr 49)), (1, .inl x1)] [] w (some (.inl y), v) := by
  intro n
  induction n with
  | zero => intro x1 w y v h; rw [m_image_42] at h; cases h
  | succ n ih =>
    intro x1 w y v h
    rw [m_image_42] at h
    refine aw_iload_n (pc := 42) (q := 1) dX12_image_42 rfl ?_
    refine aw_bipush (pc := 43) dX12_image_43 (by decide) ⟨by decide, by decide⟩ ?_
    refine aw_icmp_ge (pc := 45) (tgt := 66) dX12_image_45 (by decide) (fun hc => ?_) (fun hc => ?_)
    · rw [if_pos hc] at h
      exact aw_sel [0] rfl (w_m_image_66 N d  _ _ _ h)
    · rw [if_neg hc] at h
      refine aw_aload_n (pc := 48) (q := 0) dX12_image_48 rfl ?_
      refine aw_getf (pc := 49) (v := .inr (.inr 71)) dX12_image_49 fl_RX12_93 (by decide) rfl rfl rfl ?_
      refine aw_iload_n (pc := 52) (q := 1) dX12_image_52 rfl ?_
      refine aw_aload_n (pc := 53) (q := 0) dX12_image_53 rfl ?_
      refine aw_getf (pc := 54) (v := .inr (.inr 58)) dX12_image_54 fl_RX12_49 (by decide) rfl rfl rfl ?_
      refine aw_iload_n (pc := 57) (q := 1) dX12_image_57 rfl ?_
      obtain ⟨hb, h⟩ := aw_cks h
      refine aw_ialdv (pc := 58) (v := w 58 x1.toNat) dX12_image_58 rfl hb.1 hb.2 rfl ?_
      obtain ⟨hb, h⟩ := aw_cks h
      refine aw_iast (pc := 59) dX12_image_59 rfl hb.1 hb.2 ?_
      refine aw_iinc (pc := 60) (q := 1) (ls' := [(1, .inl (aw_w (x1 + 1))), (0, .inr (.inr 49))]) dX12_image_60 rfl (by decide) rfl ?_
      refine aw_goto (pc := 63) (tgt := 42) dX12_image_63 (by decide) ?_
      exact aw_sel [1, 0] rfl (ih _ _ _ _ h)
def m_image_40 (N : Nat) (w : aw_W) : Option (Int × aw_W) :=
  m_image_42 N N 0 w
theorem w_m_image_40 {l : Launch} {K : aw_K} (N d : Nat) : ∀ (w : aw_W) (y : Int) (v : aw_W), m_image_40 N w = some (y, v) → aw_AW l K MX12_image (d) 40 [(0, .inr (.inr 49))] [] w (some (.inl y), v) := by
  intro w y v h
  unfold m_image_40 at h
  refine aw_iconst (pc := 40) dX12_image_40 ⟨by decide, by decide⟩ ?_
  refine aw_istore_n (pc := 41) (ls' := [(1, .inl 0), (0, .inr (.inr 49))]) dX12_image_41 (by decide) rfl ?_
  exact aw_sel [1, 0] rfl (w_m_image_42 N d  N _ _ _ _ h)
def m_image_16 (N : Nat) : Nat → Int → aw_W → Option (Int × aw_W)
  | 0, _, _ => none
  | n + 1, x1, w =>
    if 40 ≤ x1 then
      m_image_40 N w
    else
      if 0 ≤ x1 ∧ x1 < 40 then
        if 0 ≤ x1 ∧ x1 < 40 then
          m_image_16 N n (aw_w (x1 + 1)) (aw_up w 70 x1.toNat (w 69 x1.toNat))
        else none
      else none
theorem w_m_image_16 {l : Launch} {K : aw_K} (N d : Nat) : ∀ (n : Nat) (x1 : Int) (w : aw_W) (y : Int) (v : aw_W), m_image_16 N n x1 w = some (y, v) → aw_AW l K MX12_image (d) 16 [(0, .inr (.inr 49)), (1, .inl x1)] [] w (some (.inl y), v) := by
  intro n
  induction n with
  | zero => intro x1 w y v h; rw [m_image_16] at h; cases h
  | succ n ih =>
    intro x1 w y v h
    rw [m_image_16] at h
    refine aw_iload_n (pc := 16) (q := 1) dX12_image_16 rfl ?_
    refine aw_bipush (pc := 17) dX12_image_17 (by decide) ⟨by decide, by decide⟩ ?_
    refine aw_icmp_ge (pc := 19) (tgt := 40) dX12_image_19 (by decide) (fun hc => ?_) (fun hc => ?_)
    · rw [if_pos hc] at h
      exact aw_sel [0] rfl (w_m_image_40 N d  _ _ _ h)
    · rw [if_neg hc] at h
      refine aw_aload_n (pc := 22) (q := 0) dX12_image_22 rfl ?_
      refine aw_getf (pc := 23) (v := .inr (.inr 70)) dX12_image_23 fl_RX12_90 (by decide) rfl rfl rfl ?_
      refine aw_iload_n (pc := 26) (q := 1) dX12_image_26 rfl ?_
      refine aw_aload_n (pc := 27) (q := 0) dX12_image_27 rfl ?_
      refine aw_getf (pc := 28) (v := .inr (.inr 69)) dX12_image_28 fl_RX12_87 (by decide) rfl rfl rfl ?_
      refine aw_iload_n (pc := 31) (q := 1) dX12_image_31 rfl ?_
      obtain ⟨hb, h⟩ := aw_cks h
      refine aw_ialdv (pc := 32) (v := w 69 x1.toNat) dX12_image_32 rfl hb.1 hb.2 rfl ?_
      obtain ⟨hb, h⟩ := aw_cks h
      refine aw_iast (pc := 33) dX12_image_33 rfl hb.1 hb.2 ?_
      refine aw_iinc (pc := 34) (q := 1) (ls' := [(1, .inl (aw_w (x1 + 1))), (0, .inr (.inr 49))]) dX12_image_34 rfl (by decide) rfl ?_
      refine aw_goto (pc := 37) (tgt := 16) dX12_image_37 (by decide) ?_
      exact aw_sel [1, 0] rfl (ih _ _ _ _ h)
def m_image (N : Nat) (w : aw_W) : Option (Int × aw_W) :=
  if (w 49 22) = 0 then
    some ((-1), (aw_up w 49 0 0))
  else
    m_image_16 N N 0 (aw_up w 49 0 0)
theorem w_m_image {l : Launch} {K : aw_K} (N d : Nat) (hd : 0 ≤ d) : ∀ (w : aw_W) (y : Int) (v : aw_W), m_image N w = some (y, v) → aw_Met l K MX12_image (d) [.inr (.inr 49)] w (some (.inl y), v) := by
  intro w y v h
  unfold m_image at h
  refine aw_enter rfl (Nat.le_of_ble_eq_true rfl) ?_
  show aw_AW l K MX12_image (d) 0 [(0, .inr (.inr 49))] [] w (some (.inl y), v)
  refine aw_aload_n (pc := 0) (q := 0) dX12_image_0 rfl ?_
  refine aw_iconst (pc := 1) dX12_image_1 ⟨by decide, by decide⟩ ?_
  refine aw_puti (pc := 2) dX12_image_2 fp_RX12_99 (by decide) rfl rfl ?_
  refine aw_aload_n (pc := 5) (q := 0) dX12_image_5 rfl ?_
  refine aw_getf (pc := 6) (v := .inl (w 49 22)) dX12_image_6 fl_RX12_270 (by decide) rfl rfl rfl ?_
  refine aw_if_ne (pc := 9) (tgt := 14) dX12_image_9 (by decide) (fun hc => ?_) (fun hc => ?_)
  · rw [if_neg hc] at h
    refine aw_iconst (pc := 14) dX12_image_14 ⟨by decide, by decide⟩ ?_
    refine aw_istore_n (pc := 15) (ls' := [(1, .inl 0), (0, .inr (.inr 49))]) dX12_image_15 (by decide) rfl ?_
    exact aw_sel [1, 0] rfl (w_m_image_16 N d  N _ _ _ _ h)
  · rw [if_pos hc] at h
    refine aw_iconst (pc := 12) dX12_image_12 ⟨by decide, by decide⟩ ?_
    cases h
    exact aw_iret (pc := 13) rfl dX12_image_13
theorem dX12_latest_0 : decode cX12_latest 0 = .ok (.aload_n 0, 1) := by decide +kernel
theorem dX12_latest_1 : decode cX12_latest 1 = .ok (.iconst 0, 1) := by decide +kernel
theorem dX12_latest_2 : decode cX12_latest 2 = .ok (.putfield 99, 3) := by decide +kernel
theorem dX12_latest_5 : decode cX12_latest 5 = .ok (.aload_n 0, 1) := by decide +kernel
theorem dX12_latest_6 : decode cX12_latest 6 = .ok (.iload_n 1, 1) := by decide +kernel
theorem dX12_latest_7 : decode cX12_latest 7 = .ok (.iconst 1, 1) := by decide +kernel
theorem dX12_latest_8 : decode cX12_latest 8 = .ok (.invokevirtual 310, 3) := by decide +kernel
theorem dX12_latest_11 : decode cX12_latest 11 = .ok (.ifCond .ne 7, 3) := by decide +kernel
theorem dX12_latest_14 : decode cX12_latest 14 = .ok (.ldc_w 315, 3) := by decide +kernel
theorem dX12_latest_17 : decode cX12_latest 17 = .ok (.ireturn, 1) := by decide +kernel
theorem dX12_latest_18 : decode cX12_latest 18 = .ok (.iconst 1, 1) := by decide +kernel
theorem dX12_latest_19 : decode cX12_latest 19 = .ok (.istore_n 2, 1) := by decide +kernel
theorem dX12_latest_20 : decode cX12_latest 20 = .ok (.iload_n 2, 1) := by decide +kernel
theorem dX12_latest_21 : decode cX12_latest 21 = .ok (.bipush 99, 2) := by decide +kernel
theorem dX12_latest_23 : decode cX12_latest 23 = .ok (.if_icmp .gt 25, 3) := by decide +kernel
theorem dX12_latest_26 : decode cX12_latest 26 = .ok (.aload_n 0, 1) := by decide +kernel
theorem dX12_latest_27 : decode cX12_latest 27 = .ok (.iload_n 1, 1) := by decide +kernel
theorem dX12_latest_28 : decode cX12_latest 28 = .ok (.iload_n 2, 1) := by decide +kernel
theorem dX12_latest_29 : decode cX12_latest 29 = .ok (.invokevirtual 316, 3) := by decide +kernel
theorem dX12_latest_32 : decode cX12_latest 32 = .ok (.aload_n 0, 1) := by decide +kernel
theorem dX12_latest_33 : decode cX12_latest 33 = .ok (.invokevirtual 320, 3) := by decide +kernel
theorem dX12_latest_36 : decode cX12_latest 36 = .ok (.iconst (-1), 1) := by decide +kernel
theorem dX12_latest_37 : decode cX12_latest 37 = .ok (.if_icmp .eq 5, 3) := by decide +kernel
theorem dX12_latest_40 : decode cX12_latest 40 = .ok (.iload_n 2, 1) := by decide +kernel
theorem dX12_latest_41 : decode cX12_latest 41 = .ok (.ireturn, 1) := by decide +kernel
theorem dX12_latest_42 : decode cX12_latest 42 = .ok (.iinc 2 1, 3) := by decide +kernel
theorem dX12_latest_45 : decode cX12_latest 45 = .ok (.goto (-25), 3) := by decide +kernel
theorem dX12_latest_48 : decode cX12_latest 48 = .ok (.iconst (-1), 1) := by decide +kernel
theorem dX12_latest_49 : decode cX12_latest 49 = .ok (.ireturn, 1) := by decide +kernel
def m_latest_48 (N : Nat) (w : aw_W) : Option (Int × aw_W) :=
  some ((-1), w)
theorem w_m_latest_48 {l : Launch} {K : aw_K} (N d : Nat) (hd : 129 ≤ d) : ∀ (w : aw_W) (y : Int) (v : aw_W), m_latest_48 N w = some (y, v) → aw_AW l K MX12_latest (d + 1) 48 [] [] w (some (.inl y), v) := by
  intro w y v h
  unfold m_latest_48 at h
  refine aw_iconst (pc := 48) dX12_latest_48 ⟨by decide, by decide⟩ ?_
  cases h
  exact aw_iret (pc := 49) rfl dX12_latest_49
def m_latest_40 (N : Nat) (x2 : Int) (w : aw_W) : Option (Int × aw_W) :=
  some (x2, w)
theorem w_m_latest_40 {l : Launch} {K : aw_K} (N d : Nat) (hd : 129 ≤ d) : ∀ (x2 : Int) (w : aw_W) (y : Int) (v : aw_W), m_latest_40 N x2 w = some (y, v) → aw_AW l K MX12_latest (d + 1) 40 [(2, .inl x2)] [] w (some (.inl y), v) := by
  intro x2 w y v h
  unfold m_latest_40 at h
  refine aw_iload_n (pc := 40) (q := 0) dX12_latest_40 rfl ?_
  cases h
  exact aw_iret (pc := 41) rfl dX12_latest_41
def m_latest_20 (N : Nat) : Nat → Int → Int → aw_W → Option (Int × aw_W)
  | 0, _, _, _ => none
  | n + 1, x1, x2, w =>
    if 99 < x2 then
      m_latest_48 N w
    else
      aw_b1 (m_run N x1 x2 w) fun w1 =>
        aw_b2 (m_winner N w1) fun r2 w2 =>
          if r2 = (-1) then
            m_latest_20 N n x1 (aw_w (x2 + 1)) w2
          else
            m_latest_40 N x2 w2
theorem w_m_latest_20 {l : Launch} {K : aw_K} (N d : Nat) (hd : 129 ≤ d) : ∀ (n : Nat) (x1 x2 : Int) (w : aw_W) (y : Int) (v : aw_W), m_latest_20 N n x1 x2 w = some (y, v) → aw_AW l K MX12_latest (d + 1) 20 [(0, .inr (.inr 49)), (1, .inl x1), (2, .inl x2)] [] w (some (.inl y), v) := by
  intro n
  induction n with
  | zero => intro x1 x2 w y v h; rw [m_latest_20] at h; cases h
  | succ n ih =>
    intro x1 x2 w y v h
    rw [m_latest_20] at h
    refine aw_iload_n (pc := 20) (q := 2) dX12_latest_20 rfl ?_
    refine aw_bipush (pc := 21) dX12_latest_21 (by decide) ⟨by decide, by decide⟩ ?_
    refine aw_icmp_gt (pc := 23) (tgt := 48) dX12_latest_23 (by decide) (fun hc => ?_) (fun hc => ?_)
    · rw [if_pos hc] at h
      exact aw_sel [] rfl (w_m_latest_48 N d hd  _ _ _ h)
    · rw [if_neg hc] at h
      refine aw_aload_n (pc := 26) (q := 0) dX12_latest_26 rfl ?_
      refine aw_iload_n (pc := 27) (q := 1) dX12_latest_27 rfl ?_
      refine aw_iload_n (pc := 28) (q := 2) dX12_latest_28 rfl ?_
      obtain ⟨w1, h1, h⟩ := aw_b1s h
      refine aw_callV (pc := 29) (as := [.inl x1, .inl x2]) (st := []) (st' := []) dX12_latest_29 cv_RX12_316 (by decide) rfl rfl rfl rfl (Nat.le_of_ble_eq_true rfl) (w_m_run N d (by omega) _ _ _ _ h1) rfl ?_
      refine aw_aload_n (pc := 32) (q := 0) dX12_latest_32 rfl ?_
      obtain ⟨r2, w2, h2, h⟩ := aw_b2s h
      refine aw_callV (pc := 33) (as := []) (st := []) (st' := [.inl r2]) dX12_latest_33 cv_RX12_320 (by decide) rfl rfl rfl rfl (Nat.le_of_ble_eq_true rfl) (w_m_winner N d (by omega) _ _ _ h2) rfl ?_
      refine aw_iconst (pc := 36) dX12_latest_36 ⟨by decide, by decide⟩ ?_
      refine aw_icmp_eq (pc := 37) (tgt := 42) dX12_latest_37 (by decide) (fun hc => ?_) (fun hc => ?_)
      · rw [if_pos hc] at h
        refine aw_iinc (pc := 42) (q := 2) (ls' := [(2, .inl (aw_w (x2 + 1))), (0, .inr (.inr 49)), (1, .inl x1)]) dX12_latest_42 rfl (by decide) rfl ?_
        refine aw_goto (pc := 45) (tgt := 20) dX12_latest_45 (by decide) ?_
        exact aw_sel [1, 2, 0] rfl (ih _ _ _ _ _ h)
      · rw [if_neg hc] at h
        exact aw_sel [2] rfl (w_m_latest_40 N d hd  _ _ _ _ h)
def m_latest (N : Nat) (x1 : Int) (w : aw_W) : Option (Int × aw_W) :=
  aw_b2 (m_isRace N x1 1 (aw_up w 49 0 0)) fun r1 w1 =>
    if r1 = 0 then
      some ((-1000000), w1)
    else
      m_latest_20 N N x1 1 w1
theorem w_m_latest_d {l : Launch} {K : aw_K} (N d : Nat) (hd : 129 ≤ d) : ∀ (x1 : Int) (w : aw_W) (y : Int) (v : aw_W), m_latest N x1 w = some (y, v) → aw_Met l K MX12_latest (d + 1) [.inr (.inr 49), .inl x1] w (some (.inl y), v) := by
  intro x1 w y v h
  unfold m_latest at h
  refine aw_enter rfl (Nat.le_of_ble_eq_true rfl) ?_
  show aw_AW l K MX12_latest (d + 1) 0 [(0, .inr (.inr 49)), (1, .inl x1)] [] w (some (.inl y), v)
  refine aw_aload_n (pc := 0) (q := 0) dX12_latest_0 rfl ?_
  refine aw_iconst (pc := 1) dX12_latest_1 ⟨by decide, by decide⟩ ?_
  refine aw_puti (pc := 2) dX12_latest_2 fp_RX12_99 (by decide) rfl rfl ?_
  refine aw_aload_n (pc := 5) (q := 0) dX12_latest_5 rfl ?_
  refine aw_iload_n (pc := 6) (q := 1) dX12_latest_6 rfl ?_
  refine aw_iconst (pc := 7) dX12_latest_7 ⟨by decide, by decide⟩ ?_
  obtain ⟨r1, w1, h1, h⟩ := aw_b2s h
  refine aw_callV (pc := 8) (as := [.inl x1, .inl 1]) (st := []) (st' := [.inl r1]) dX12_latest_8 cv_RX12_310 (by decide) rfl rfl rfl rfl (Nat.le_of_ble_eq_true rfl) (w_m_isRace N d (by omega) _ _ _ _ _ h1) rfl ?_
  refine aw_if_ne (pc := 11) (tgt := 18) dX12_latest_11 (by decide) (fun hc => ?_) (fun hc => ?_)
  · rw [if_neg hc] at h
    refine aw_iconst (pc := 18) dX12_latest_18 ⟨by decide, by decide⟩ ?_
    refine aw_istore_n (pc := 19) (ls' := [(2, .inl 1), (0, .inr (.inr 49)), (1, .inl x1)]) dX12_latest_19 (by decide) rfl ?_
    exact aw_sel [1, 2, 0] rfl (w_m_latest_20 N d hd  N _ _ _ _ _ h)
  · rw [if_pos hc] at h
    refine aw_ldcw (pc := 14) (x := (-1000000)) dX12_latest_14 cn_RX12_315 ⟨by decide, by decide⟩ ?_
    cases h
    exact aw_iret (pc := 17) rfl dX12_latest_17
theorem w_m_latest {l : Launch} {K : aw_K} (N d : Nat) (hd : 130 ≤ d) : ∀ (x1 : Int) (w : aw_W) (y : Int) (v : aw_W), m_latest N x1 w = some (y, v) → aw_Met l K MX12_latest (d) [.inr (.inr 49), .inl x1] w (some (.inl y), v) := by
  obtain ⟨e, rfl⟩ : ∃ e, d = e + 1 := ⟨d - 1, by omega⟩
  exact w_m_latest_d N e (by omega)
theorem dX12_law_0 : decode cX12_law 0 = .ok (.aload_n 0, 1) := by decide +kernel
theorem dX12_law_1 : decode cX12_law 1 = .ok (.iconst 0, 1) := by decide +kernel
theorem dX12_law_2 : decode cX12_law 2 = .ok (.putfield 99, 3) := by decide +kernel
theorem dX12_law_5 : decode cX12_law 5 = .ok (.aload_n 0, 1) := by decide +kernel
theorem dX12_law_6 : decode cX12_law 6 = .ok (.getfield 270, 3) := by decide +kernel
theorem dX12_law_9 : decode cX12_law 9 = .ok (.ifCond .le 24, 3) := by decide +kernel
theorem dX12_law_12 : decode cX12_law 12 = .ok (.iload_n 1, 1) := by decide +kernel
theorem dX12_law_13 : decode cX12_law 13 = .ok (.i2l, 1) := by decide +kernel
theorem dX12_law_14 : decode cX12_law 14 = .ok (.lconst 0, 1) := by decide +kernel
theorem dX12_law_15 : decode cX12_law 15 = .ok (.ldc2_w 285, 3) := by decide +kernel
theorem dX12_law_18 : decode cX12_law 18 = .ok (.invokestatic 227, 3) := by decide +kernel
theorem dX12_law_21 : decode cX12_law 21 = .ok (.ifCond .eq 12, 3) := by decide +kernel
theorem dX12_law_24 : decode cX12_law 24 = .ok (.aload_n 0, 1) := by decide +kernel
theorem dX12_law_25 : decode cX12_law 25 = .ok (.getfield 43, 3) := by decide +kernel
theorem dX12_law_28 : decode cX12_law 28 = .ok (.iload_n 1, 1) := by decide +kernel
theorem dX12_law_29 : decode cX12_law 29 = .ok (.iaload, 1) := by decide +kernel
theorem dX12_law_30 : decode cX12_law 30 = .ok (.goto 4, 3) := by decide +kernel
theorem dX12_law_33 : decode cX12_law 33 = .ok (.iconst (-1), 1) := by decide +kernel
theorem dX12_law_34 : decode cX12_law 34 = .ok (.ireturn, 1) := by decide +kernel
def m_law_34 (N : Nat) (s0 : Int) (w : aw_W) : Option (Int × aw_W) :=
  some (s0, w)
theorem w_m_law_34 {l : Launch} {K : aw_K} (N d : Nat) (hd : 0 ≤ d) : ∀ (s0 : Int) (w : aw_W) (y : Int) (v : aw_W), m_law_34 N s0 w = some (y, v) → aw_AW l K MX12_law (d + 1) 34 [] [.inl s0] w (some (.inl y), v) := by
  intro s0 w y v h
  unfold m_law_34 at h
  cases h
  exact aw_iret (pc := 34) rfl dX12_law_34
def m_law_33 (N : Nat) (w : aw_W) : Option (Int × aw_W) :=
  m_law_34 N (-1) w
theorem w_m_law_33 {l : Launch} {K : aw_K} (N d : Nat) (hd : 0 ≤ d) : ∀ (w : aw_W) (y : Int) (v : aw_W), m_law_33 N w = some (y, v) → aw_AW l K MX12_law (d + 1) 33 [] [] w (some (.inl y), v) := by
  intro w y v h
  unfold m_law_33 at h
  refine aw_iconst (pc := 33) dX12_law_33 ⟨by decide, by decide⟩ ?_
  exact aw_sel [] rfl (w_m_law_34 N d hd  _ _ _ _ h)
def m_law (N : Nat) (x1 : Int) (w : aw_W) : Option (Int × aw_W) :=
  if (w 49 22) ≤ 0 then
    m_law_33 N (aw_up w 49 0 0)
  else
    aw_b2 (m_isIn N x1 0 4 (aw_up w 49 0 0)) fun r1 w1 =>
      if r1 = 0 then
        m_law_33 N w1
      else
        if 0 ≤ x1 ∧ x1 < 5 then
          m_law_34 N (w1 56 x1.toNat) w1
        else none
theorem w_m_law_d {l : Launch} {K : aw_K} (N d : Nat) (hd : 0 ≤ d) : ∀ (x1 : Int) (w : aw_W) (y : Int) (v : aw_W), m_law N x1 w = some (y, v) → aw_Met l K MX12_law (d + 1) [.inr (.inr 49), .inl x1] w (some (.inl y), v) := by
  intro x1 w y v h
  unfold m_law at h
  refine aw_enter rfl (Nat.le_of_ble_eq_true rfl) ?_
  show aw_AW l K MX12_law (d + 1) 0 [(0, .inr (.inr 49)), (1, .inl x1)] [] w (some (.inl y), v)
  refine aw_aload_n (pc := 0) (q := 0) dX12_law_0 rfl ?_
  refine aw_iconst (pc := 1) dX12_law_1 ⟨by decide, by decide⟩ ?_
  refine aw_puti (pc := 2) dX12_law_2 fp_RX12_99 (by decide) rfl rfl ?_
  refine aw_aload_n (pc := 5) (q := 0) dX12_law_5 rfl ?_
  refine aw_getf (pc := 6) (v := .inl (w 49 22)) dX12_law_6 fl_RX12_270 (by decide) rfl rfl rfl ?_
  refine aw_if_le (pc := 9) (tgt := 33) dX12_law_9 (by decide) (fun hc => ?_) (fun hc => ?_)
  · rw [if_pos hc] at h
    exact aw_sel [] rfl (w_m_law_33 N d hd  _ _ _ h)
  · rw [if_neg hc] at h
    refine aw_iload_n (pc := 12) (q := 1) dX12_law_12 rfl ?_
    refine aw_i2l (pc := 13) dX12_law_13 ?_
    refine aw_lconst (pc := 14) (x := 0) dX12_law_14 (by decide) ⟨by decide, by decide⟩ ?_
    refine aw_ldc2 (pc := 15) (x := 4) dX12_law_15 cl_RX12_285 ⟨by decide, by decide⟩ ?_
    obtain ⟨r1, w1, h1, h⟩ := aw_b2s h
    refine aw_callS (pc := 18) (as := [.inr (.inl x1), .inr (.inl 0), .inr (.inl 4)]) (st := []) (st' := [.inl r1]) dX12_law_18 cs_RX12_227 rfl rfl (Nat.le_of_ble_eq_true rfl) (w_m_isIn N d (by omega) _ _ _ _ _ _ h1) rfl ?_
    refine aw_if_eq (pc := 21) (tgt := 33) dX12_law_21 (by decide) (fun hc => ?_) (fun hc => ?_)
    · rw [if_pos hc] at h
      exact aw_sel [] rfl (w_m_law_33 N d hd  _ _ _ h)
    · rw [if_neg hc] at h
      refine aw_aload_n (pc := 24) (q := 0) dX12_law_24 rfl ?_
      refine aw_getf (pc := 25) (v := .inr (.inr 56)) dX12_law_25 fl_RX12_43 (by decide) rfl rfl rfl ?_
      refine aw_iload_n (pc := 28) (q := 1) dX12_law_28 rfl ?_
      obtain ⟨hb, h⟩ := aw_cks h
      refine aw_ialdv (pc := 29) (v := w1 56 x1.toNat) dX12_law_29 rfl hb.1 hb.2 rfl ?_
      refine aw_goto (pc := 30) (tgt := 34) dX12_law_30 (by decide) ?_
      exact aw_sel [] rfl (w_m_law_34 N d hd  _ _ _ _ h)
theorem w_m_law {l : Launch} {K : aw_K} (N d : Nat) (hd : 1 ≤ d) : ∀ (x1 : Int) (w : aw_W) (y : Int) (v : aw_W), m_law N x1 w = some (y, v) → aw_Met l K MX12_law (d) [.inr (.inr 49), .inl x1] w (some (.inl y), v) := by
  obtain ⟨e, rfl⟩ : ∃ e, d = e + 1 := ⟨d - 1, by omega⟩
  exact w_m_law_d N e (by omega)
