theorem dX12_back_0 : decode cX12_back 0 = .ok (.aload_n 0, 1) := by decide +kernel
theorem dX12_back_1 : decode cX12_back 1 = .ok (.iconst 0, 1) := by decide +kernel
theorem dX12_back_2 : decode cX12_back 2 = .ok (.putfield 99, 3) := by decide +kernel
theorem dX12_back_5 : decode cX12_back 5 = .ok (.aload_n 0, 1) := by decide +kernel
theorem dX12_back_6 : decode cX12_back 6 = .ok (.getfield 276, 3) := by decide +kernel
theorem dX12_back_9 : decode cX12_back 9 = .ok (.ifCond .ne 5, 3) := by decide +kernel
theorem dX12_back_12 : decode cX12_back 12 = .ok (.iconst (-1), 1) := by decide +kernel
theorem dX12_back_13 : decode cX12_back 13 = .ok (.ireturn, 1) := by decide +kernel
theorem dX12_back_14 : decode cX12_back 14 = .ok (.iconst 0, 1) := by decide +kernel
theorem dX12_back_15 : decode cX12_back 15 = .ok (.istore_n 1, 1) := by decide +kernel
theorem dX12_back_16 : decode cX12_back 16 = .ok (.iload_n 1, 1) := by decide +kernel
theorem dX12_back_17 : decode cX12_back 17 = .ok (.bipush 40, 2) := by decide +kernel
theorem dX12_back_19 : decode cX12_back 19 = .ok (.if_icmp .ge 21, 3) := by decide +kernel
theorem dX12_back_22 : decode cX12_back 22 = .ok (.aload_n 0, 1) := by decide +kernel
theorem dX12_back_23 : decode cX12_back 23 = .ok (.getfield 87, 3) := by decide +kernel
theorem dX12_back_26 : decode cX12_back 26 = .ok (.iload_n 1, 1) := by decide +kernel
theorem dX12_back_27 : decode cX12_back 27 = .ok (.aload_n 0, 1) := by decide +kernel
theorem dX12_back_28 : decode cX12_back 28 = .ok (.getfield 90, 3) := by decide +kernel
theorem dX12_back_31 : decode cX12_back 31 = .ok (.iload_n 1, 1) := by decide +kernel
theorem dX12_back_32 : decode cX12_back 32 = .ok (.iaload, 1) := by decide +kernel
theorem dX12_back_33 : decode cX12_back 33 = .ok (.iastore, 1) := by decide +kernel
theorem dX12_back_34 : decode cX12_back 34 = .ok (.iinc 1 1, 3) := by decide +kernel
theorem dX12_back_37 : decode cX12_back 37 = .ok (.goto (-21), 3) := by decide +kernel
theorem dX12_back_40 : decode cX12_back 40 = .ok (.iconst 0, 1) := by decide +kernel
theorem dX12_back_41 : decode cX12_back 41 = .ok (.istore_n 1, 1) := by decide +kernel
theorem dX12_back_42 : decode cX12_back 42 = .ok (.iload_n 1, 1) := by decide +kernel
theorem dX12_back_43 : decode cX12_back 43 = .ok (.bipush 6, 2) := by decide +kernel
theorem dX12_back_45 : decode cX12_back 45 = .ok (.if_icmp .ge 21, 3) := by decide +kernel
theorem dX12_back_48 : decode cX12_back 48 = .ok (.aload_n 0, 1) := by decide +kernel
theorem dX12_back_49 : decode cX12_back 49 = .ok (.getfield 49, 3) := by decide +kernel
theorem dX12_back_52 : decode cX12_back 52 = .ok (.iload_n 1, 1) := by decide +kernel
theorem dX12_back_53 : decode cX12_back 53 = .ok (.aload_n 0, 1) := by decide +kernel
theorem dX12_back_54 : decode cX12_back 54 = .ok (.getfield 93, 3) := by decide +kernel
theorem dX12_back_57 : decode cX12_back 57 = .ok (.iload_n 1, 1) := by decide +kernel
theorem dX12_back_58 : decode cX12_back 58 = .ok (.iaload, 1) := by decide +kernel
theorem dX12_back_59 : decode cX12_back 59 = .ok (.iastore, 1) := by decide +kernel
theorem dX12_back_60 : decode cX12_back 60 = .ok (.iinc 1 1, 3) := by decide +kernel
theorem dX12_back_63 : decode cX12_back 63 = .ok (.goto (-21), 3) := by decide +kernel
theorem dX12_back_66 : decode cX12_back 66 = .ok (.iconst 0, 1) := by decide +kernel
theorem dX12_back_67 : decode cX12_back 67 = .ok (.istore_n 1, 1) := by decide +kernel
theorem dX12_back_68 : decode cX12_back 68 = .ok (.iload_n 1, 1) := by decide +kernel
theorem dX12_back_69 : decode cX12_back 69 = .ok (.iconst 5, 1) := by decide +kernel
theorem dX12_back_70 : decode cX12_back 70 = .ok (.if_icmp .ge 21, 3) := by decide +kernel
theorem dX12_back_73 : decode cX12_back 73 = .ok (.aload_n 0, 1) := by decide +kernel
theorem dX12_back_74 : decode cX12_back 74 = .ok (.getfield 43, 3) := by decide +kernel
theorem dX12_back_77 : decode cX12_back 77 = .ok (.iload_n 1, 1) := by decide +kernel
theorem dX12_back_78 : decode cX12_back 78 = .ok (.aload_n 0, 1) := by decide +kernel
theorem dX12_back_79 : decode cX12_back 79 = .ok (.getfield 96, 3) := by decide +kernel
theorem dX12_back_82 : decode cX12_back 82 = .ok (.iload_n 1, 1) := by decide +kernel
theorem dX12_back_83 : decode cX12_back 83 = .ok (.iaload, 1) := by decide +kernel
theorem dX12_back_84 : decode cX12_back 84 = .ok (.iastore, 1) := by decide +kernel
theorem dX12_back_85 : decode cX12_back 85 = .ok (.iinc 1 1, 3) := by decide +kernel
theorem dX12_back_88 : decode cX12_back 88 = .ok (.goto (-20), 3) := by decide +kernel
theorem dX12_back_91 : decode cX12_back 91 = .ok (.aload_n 0, 1) := by decide +kernel
theorem dX12_back_92 : decode cX12_back 92 = .ok (.aload_n 0, 1) := by decide +kernel
theorem dX12_back_93 : decode cX12_back 93 = .ok (.getfield 442, 3) := by decide +kernel
theorem dX12_back_96 : decode cX12_back 96 = .ok (.putfield 273, 3) := by decide +kernel
theorem dX12_back_99 : decode cX12_back 99 = .ok (.aload_n 0, 1) := by decide +kernel
theorem dX12_back_100 : decode cX12_back 100 = .ok (.getfield 273, 3) := by decide +kernel
theorem dX12_back_103 : decode cX12_back 103 = .ok (.ireturn, 1) := by decide +kernel
def m_back_91 (N : Nat) (w : aw_W) : Option (Int × aw_W) :=
  some (w 49 50, (aw_up w 49 43 (w 49 50)))
theorem w_m_back_91 {l : Launch} {K : aw_K} (N d : Nat) : ∀ (w : aw_W) (y : Int) (v : aw_W), m_back_91 N w = some (y, v) → aw_AW l K MX12_back (d) 91 [(0, .inr (.inr 49))] [] w (some (.inl y), v) := by
  intro w y v h
  unfold m_back_91 at h
  refine aw_aload_n (pc := 91) (q := 0) dX12_back_91 rfl ?_
  refine aw_aload_n (pc := 92) (q := 0) dX12_back_92 rfl ?_
  refine aw_getf (pc := 93) (v := .inl (w 49 50)) dX12_back_93 fl_RX12_442 (by decide) rfl rfl rfl ?_
  refine aw_puti (pc := 96) dX12_back_96 fp_RX12_273 (by decide) rfl rfl ?_
  refine aw_aload_n (pc := 99) (q := 0) dX12_back_99 rfl ?_
  refine aw_getf (pc := 100) (v := .inl (w 49 50)) dX12_back_100 fl_RX12_273 (by decide) rfl rfl rfl ?_
  cases h
  exact aw_iret (pc := 103) rfl dX12_back_103
def m_back_68 (N : Nat) : Nat → Int → aw_W → Option (Int × aw_W)
  | 0, _, _ => none
  | n + 1, x1, w =>
    if 5 ≤ x1 then
      m_back_91 N w
    else
      if 0 ≤ x1 ∧ x1 < 5 then
        if 0 ≤ x1 ∧ x1 < 5 then
          m_back_68 N n (aw_w (x1 + 1)) (aw_up w 56 x1.toNat (w 72 x1.toNat))
        else none
      else none
theorem w_m_back_68 {l : Launch} {K : aw_K} (N d : Nat) : ∀ (n : Nat) (x1 : Int) (w : aw_W) (y : Int) (v : aw_W), m_back_68 N n x1 w = some (y, v) → aw_AW l K MX12_back (d) 68 [(0, .inr (.inr 49)), (1, .inl x1)] [] w (some (.inl y), v) := by
  intro n
  induction n with
  | zero => intro x1 w y v h; rw [m_back_68] at h; cases h
  | succ n ih =>
    intro x1 w y v h
    rw [m_back_68] at h
    refine aw_iload_n (pc := 68) (q := 1) dX12_back_68 rfl ?_
    refine aw_iconst (pc := 69) dX12_back_69 ⟨by decide, by decide⟩ ?_
    refine aw_icmp_ge (pc := 70) (tgt := 91) dX12_back_70 (by decide) (fun hc => ?_) (fun hc => ?_)
    · rw [if_pos hc] at h
      exact aw_sel [0] rfl (w_m_back_91 N d  _ _ _ h)
    · rw [if_neg hc] at h
      refine aw_aload_n (pc := 73) (q := 0) dX12_back_73 rfl ?_
      refine aw_getf (pc := 74) (v := .inr (.inr 56)) dX12_back_74 fl_RX12_43 (by decide) rfl rfl rfl ?_
      refine aw_iload_n (pc := 77) (q := 1) dX12_back_77 rfl ?_
      refine aw_aload_n (pc := 78) (q := 0) dX12_back_78 rfl ?_
      refine aw_getf (pc := 79) (v := .inr (.inr 72)) dX12_back_79 fl_RX12_96 (by decide) rfl rfl rfl ?_
      refine aw_iload_n (pc := 82) (q := 1) dX12_back_82 rfl ?_
      obtain ⟨hb, h⟩ := aw_cks h
      refine aw_ialdv (pc := 83) (v := w 72 x1.toNat) dX12_back_83 rfl hb.1 hb.2 rfl ?_
      obtain ⟨hb, h⟩ := aw_cks h
      refine aw_iast (pc := 84) dX12_back_84 rfl hb.1 hb.2 ?_
      refine aw_iinc (pc := 85) (q := 1) (ls' := [(1, .inl (aw_w (x1 + 1))), (0, .inr (.inr 49))]) dX12_back_85 rfl (by decide) rfl ?_
      refine aw_goto (pc := 88) (tgt := 68) dX12_back_88 (by decide) ?_
      exact aw_sel [1, 0] rfl (ih _ _ _ _ h)
def m_back_66 (N : Nat) (w : aw_W) : Option (Int × aw_W) :=
  m_back_68 N N 0 w
theorem w_m_back_66 {l : Launch} {K : aw_K} (N d : Nat) : ∀ (w : aw_W) (y : Int) (v : aw_W), m_back_66 N w = some (y, v) → aw_AW l K MX12_back (d) 66 [(0, .inr (.inr 49))] [] w (some (.inl y), v) := by
  intro w y v h
  unfold m_back_66 at h
  refine aw_iconst (pc := 66) dX12_back_66 ⟨by decide, by decide⟩ ?_
  refine aw_istore_n (pc := 67) (ls' := [(1, .inl 0), (0, .inr (.inr 49))]) dX12_back_67 (by decide) rfl ?_
  exact aw_sel [1, 0] rfl (w_m_back_68 N d  N _ _ _ _ h)
def m_back_42 (N : Nat) : Nat → Int → aw_W → Option (Int × aw_W)
  | 0, _, _ => none
  | n + 1, x1, w =>
    if 6 ≤ x1 then
      m_back_66 N w
    else
      if 0 ≤ x1 ∧ x1 < 6 then
        if 0 ≤ x1 ∧ x1 < 6 then
          m_back_42 N n (aw_w (x1 + 1)) (aw_up w 58 x1.toNat (w 71 x1.toNat))
        else none
      else none
theorem w_m_back_42 {l : Launch} {K : aw_K} (N d : Nat) : ∀ (n : Nat) (x1 : Int) (w : aw_W) (y : Int) (v : aw_W), m_back_42 N n x1 w = some (y, v) → aw_AW l K MX12_back (d) 42 [(0, .inr (.inr 49)), (1, .inl x1)] [] w (some (.inl y), v) := by
  intro n
  induction n with
  | zero => intro x1 w y v h; rw [m_back_42] at h; cases h
  | succ n ih =>
    intro x1 w y v h
    rw [m_back_42] at h
    refine aw_iload_n (pc := 42) (q := 1) dX12_back_42 rfl ?_
    refine aw_bipush (pc := 43) dX12_back_43 (by decide) ⟨by decide, by decide⟩ ?_
    refine aw_icmp_ge (pc := 45) (tgt := 66) dX12_back_45 (by decide) (fun hc => ?_) (fun hc => ?_)
    · rw [if_pos hc] at h
      exact aw_sel [0] rfl (w_m_back_66 N d  _ _ _ h)
    · rw [if_neg hc] at h
      refine aw_aload_n (pc := 48) (q := 0) dX12_back_48 rfl ?_
      refine aw_getf (pc := 49) (v := .inr (.inr 58)) dX12_back_49 fl_RX12_49 (by decide) rfl rfl rfl ?_
      refine aw_iload_n (pc := 52) (q := 1) dX12_back_52 rfl ?_
      refine aw_aload_n (pc := 53) (q := 0) dX12_back_53 rfl ?_
      refine aw_getf (pc := 54) (v := .inr (.inr 71)) dX12_back_54 fl_RX12_93 (by decide) rfl rfl rfl ?_
      refine aw_iload_n (pc := 57) (q := 1) dX12_back_57 rfl ?_
      obtain ⟨hb, h⟩ := aw_cks h
      refine aw_ialdv (pc := 58) (v := w 71 x1.toNat) dX12_back_58 rfl hb.1 hb.2 rfl ?_
      obtain ⟨hb, h⟩ := aw_cks h
      refine aw_iast (pc := 59) dX12_back_59 rfl hb.1 hb.2 ?_
      refine aw_iinc (pc := 60) (q := 1) (ls' := [(1, .inl (aw_w (x1 + 1))), (0, .inr (.inr 49))]) dX12_back_60 rfl (by decide) rfl ?_
      refine aw_goto (pc := 63) (tgt := 42) dX12_back_63 (by decide) ?_
      exact aw_sel [1, 0] rfl (ih _ _ _ _ h)
def m_back_40 (N : Nat) (w : aw_W) : Option (Int × aw_W) :=
  m_back_42 N N 0 w
theorem w_m_back_40 {l : Launch} {K : aw_K} (N d : Nat) : ∀ (w : aw_W) (y : Int) (v : aw_W), m_back_40 N w = some (y, v) → aw_AW l K MX12_back (d) 40 [(0, .inr (.inr 49))] [] w (some (.inl y), v) := by
  intro w y v h
  unfold m_back_40 at h
  refine aw_iconst (pc := 40) dX12_back_40 ⟨by decide, by decide⟩ ?_
  refine aw_istore_n (pc := 41) (ls' := [(1, .inl 0), (0, .inr (.inr 49))]) dX12_back_41 (by decide) rfl ?_
  exact aw_sel [1, 0] rfl (w_m_back_42 N d  N _ _ _ _ h)
def m_back_16 (N : Nat) : Nat → Int → aw_W → Option (Int × aw_W)
  | 0, _, _ => none
  | n + 1, x1, w =>
    if 40 ≤ x1 then
      m_back_40 N w
    else
      if 0 ≤ x1 ∧ x1 < 40 then
        if 0 ≤ x1 ∧ x1 < 40 then
          m_back_16 N n (aw_w (x1 + 1)) (aw_up w 69 x1.toNat (w 70 x1.toNat))
        else none
      else none
theorem w_m_back_16 {l : Launch} {K : aw_K} (N d : Nat) : ∀ (n : Nat) (x1 : Int) (w : aw_W) (y : Int) (v : aw_W), m_back_16 N n x1 w = some (y, v) → aw_AW l K MX12_back (d) 16 [(0, .inr (.inr 49)), (1, .inl x1)] [] w (some (.inl y), v) := by
  intro n
  induction n with
  | zero => intro x1 w y v h; rw [m_back_16] at h; cases h
  | succ n ih =>
    intro x1 w y v h
    rw [m_back_16] at h
    refine aw_iload_n (pc := 16) (q := 1) dX12_back_16 rfl ?_
    refine aw_bipush (pc := 17) dX12_back_17 (by decide) ⟨by decide, by decide⟩ ?_
    refine aw_icmp_ge (pc := 19) (tgt := 40) dX12_back_19 (by decide) (fun hc => ?_) (fun hc => ?_)
    · rw [if_pos hc] at h
      exact aw_sel [0] rfl (w_m_back_40 N d  _ _ _ h)
    · rw [if_neg hc] at h
      refine aw_aload_n (pc := 22) (q := 0) dX12_back_22 rfl ?_
      refine aw_getf (pc := 23) (v := .inr (.inr 69)) dX12_back_23 fl_RX12_87 (by decide) rfl rfl rfl ?_
      refine aw_iload_n (pc := 26) (q := 1) dX12_back_26 rfl ?_
      refine aw_aload_n (pc := 27) (q := 0) dX12_back_27 rfl ?_
      refine aw_getf (pc := 28) (v := .inr (.inr 70)) dX12_back_28 fl_RX12_90 (by decide) rfl rfl rfl ?_
      refine aw_iload_n (pc := 31) (q := 1) dX12_back_31 rfl ?_
      obtain ⟨hb, h⟩ := aw_cks h
      refine aw_ialdv (pc := 32) (v := w 70 x1.toNat) dX12_back_32 rfl hb.1 hb.2 rfl ?_
      obtain ⟨hb, h⟩ := aw_cks h
      refine aw_iast (pc := 33) dX12_back_33 rfl hb.1 hb.2 ?_
      refine aw_iinc (pc := 34) (q := 1) (ls' := [(1, .inl (aw_w (x1 + 1))), (0, .inr (.inr 49))]) dX12_back_34 rfl (by decide) rfl ?_
      refine aw_goto (pc := 37) (tgt := 16) dX12_back_37 (by decide) ?_
      exact aw_sel [1, 0] rfl (ih _ _ _ _ h)
def m_back (N : Nat) (w : aw_W) : Option (Int × aw_W) :=
  if (w 49 51) = 0 then
    some ((-1), (aw_up w 49 0 0))
  else
    m_back_16 N N 0 (aw_up w 49 0 0)
theorem w_m_back {l : Launch} {K : aw_K} (N d : Nat) (hd : 0 ≤ d) : ∀ (w : aw_W) (y : Int) (v : aw_W), m_back N w = some (y, v) → aw_Met l K MX12_back (d) [.inr (.inr 49)] w (some (.inl y), v) := by
  intro w y v h
  unfold m_back at h
  refine aw_enter rfl (Nat.le_of_ble_eq_true rfl) ?_
  show aw_AW l K MX12_back (d) 0 [(0, .inr (.inr 49))] [] w (some (.inl y), v)
  refine aw_aload_n (pc := 0) (q := 0) dX12_back_0 rfl ?_
  refine aw_iconst (pc := 1) dX12_back_1 ⟨by decide, by decide⟩ ?_
  refine aw_puti (pc := 2) dX12_back_2 fp_RX12_99 (by decide) rfl rfl ?_
  refine aw_aload_n (pc := 5) (q := 0) dX12_back_5 rfl ?_
  refine aw_getf (pc := 6) (v := .inl (w 49 51)) dX12_back_6 fl_RX12_276 (by decide) rfl rfl rfl ?_
  refine aw_if_ne (pc := 9) (tgt := 14) dX12_back_9 (by decide) (fun hc => ?_) (fun hc => ?_)
  · rw [if_neg hc] at h
    refine aw_iconst (pc := 14) dX12_back_14 ⟨by decide, by decide⟩ ?_
    refine aw_istore_n (pc := 15) (ls' := [(1, .inl 0), (0, .inr (.inr 49))]) dX12_back_15 (by decide) rfl ?_
    exact aw_sel [1, 0] rfl (w_m_back_16 N d  N _ _ _ _ h)
  · rw [if_pos hc] at h
    refine aw_iconst (pc := 12) dX12_back_12 ⟨by decide, by decide⟩ ?_
    cases h
    exact aw_iret (pc := 13) rfl dX12_back_13
theorem dX12_isIn_0 : decode cX12_isIn 0 = .ok (.lload_n 0, 1) := by decide +kernel
theorem dX12_isIn_1 : decode cX12_isIn 1 = .ok (.lload_n 2, 1) := by decide +kernel
theorem dX12_isIn_2 : decode cX12_isIn 2 = .ok (.lcmp, 1) := by decide +kernel
theorem dX12_isIn_3 : decode cX12_isIn 3 = .ok (.ifCond .lt 14, 3) := by decide +kernel
theorem dX12_isIn_6 : decode cX12_isIn 6 = .ok (.lload_n 0, 1) := by decide +kernel
theorem dX12_isIn_7 : decode cX12_isIn 7 = .ok (.lload 4, 2) := by decide +kernel
theorem dX12_isIn_9 : decode cX12_isIn 9 = .ok (.lcmp, 1) := by decide +kernel
theorem dX12_isIn_10 : decode cX12_isIn 10 = .ok (.ifCond .gt 7, 3) := by decide +kernel
theorem dX12_isIn_13 : decode cX12_isIn 13 = .ok (.iconst 1, 1) := by decide +kernel
theorem dX12_isIn_14 : decode cX12_isIn 14 = .ok (.goto 4, 3) := by decide +kernel
theorem dX12_isIn_17 : decode cX12_isIn 17 = .ok (.iconst 0, 1) := by decide +kernel
theorem dX12_isIn_18 : decode cX12_isIn 18 = .ok (.ireturn, 1) := by decide +kernel
def m_isIn_18 (N : Nat) (s0 : Int) (w : aw_W) : Option (Int × aw_W) :=
  if s0 = 0 ∨ s0 = 1 then
    some (s0, w)
  else none
theorem w_m_isIn_18 {l : Launch} {K : aw_K} (N d : Nat) : ∀ (s0 : Int) (w : aw_W) (y : Int) (v : aw_W), m_isIn_18 N s0 w = some (y, v) → aw_AW l K MX12_isIn (d) 18 [] [.inl s0] w (some (.inl y), v) := by
  intro s0 w y v h
  unfold m_isIn_18 at h
  obtain ⟨hz, h⟩ := aw_cks h
  cases h
  exact aw_zret (pc := 18) rfl hz dX12_isIn_18
def m_isIn_17 (N : Nat) (w : aw_W) : Option (Int × aw_W) :=
  m_isIn_18 N 0 w
theorem w_m_isIn_17 {l : Launch} {K : aw_K} (N d : Nat) : ∀ (w : aw_W) (y : Int) (v : aw_W), m_isIn_17 N w = some (y, v) → aw_AW l K MX12_isIn (d) 17 [] [] w (some (.inl y), v) := by
  intro w y v h
  unfold m_isIn_17 at h
  refine aw_iconst (pc := 17) dX12_isIn_17 ⟨by decide, by decide⟩ ?_
  exact aw_sel [] rfl (w_m_isIn_18 N d  _ _ _ _ h)
def m_isIn (N : Nat) (x0 x2 x4 : Int) (w : aw_W) : Option (Int × aw_W) :=
  if (aw_cmpL x0 x2) < 0 then
    m_isIn_17 N w
  else
    if 0 < (aw_cmpL x0 x4) then
      m_isIn_17 N w
    else
      m_isIn_18 N 1 w
theorem w_m_isIn {l : Launch} {K : aw_K} (N d : Nat) (hd : 0 ≤ d) : ∀ (x0 x2 x4 : Int) (w : aw_W) (y : Int) (v : aw_W), m_isIn N x0 x2 x4 w = some (y, v) → aw_Met l K MX12_isIn (d) [.inr (.inl x0), .inr (.inl x2), .inr (.inl x4)] w (some (.inl y), v) := by
  intro x0 x2 x4 w y v h
  unfold m_isIn at h
  refine aw_enter rfl (Nat.le_of_ble_eq_true rfl) ?_
  show aw_AW l K MX12_isIn (d) 0 [(0, .inr (.inl x0)), (2, .inr (.inl x2)), (4, .inr (.inl x4))] [] w (some (.inl y), v)
  refine aw_lload_n (pc := 0) (q := 0) dX12_isIn_0 rfl ?_
  refine aw_lload_n (pc := 1) (q := 1) dX12_isIn_1 rfl ?_
  refine aw_lcmp (pc := 2) dX12_isIn_2 ?_
  refine aw_if_lt (pc := 3) (tgt := 17) dX12_isIn_3 (by decide) (fun hc => ?_) (fun hc => ?_)
  · rw [if_pos hc] at h
    exact aw_sel [] rfl (w_m_isIn_17 N d  _ _ _ h)
  · rw [if_neg hc] at h
    refine aw_lload_n (pc := 6) (q := 0) dX12_isIn_6 rfl ?_
    refine aw_lload (pc := 7) (q := 2) dX12_isIn_7 rfl ?_
    refine aw_lcmp (pc := 9) dX12_isIn_9 ?_
    refine aw_if_gt (pc := 10) (tgt := 17) dX12_isIn_10 (by decide) (fun hc => ?_) (fun hc => ?_)
    · rw [if_pos hc] at h
      exact aw_sel [] rfl (w_m_isIn_17 N d  _ _ _ h)
    · rw [if_neg hc] at h
      refine aw_iconst (pc := 13) dX12_isIn_13 ⟨by decide, by decide⟩ ?_
      refine aw_goto (pc := 14) (tgt := 18) dX12_isIn_14 (by decide) ?_
      exact aw_sel [] rfl (w_m_isIn_18 N d  _ _ _ _ h)
theorem dX12_lay_0 : decode cX12_lay 0 = .ok (.iload_n 1, 1) := by decide +kernel
theorem dX12_lay_1 : decode cX12_lay 1 = .ok (.istore_n 2, 1) := by decide +kernel
theorem dX12_lay_2 : decode cX12_lay 2 = .ok (.iload_n 1, 1) := by decide +kernel
theorem dX12_lay_3 : decode cX12_lay 3 = .ok (.ifCond .lt 7, 3) := by decide +kernel
theorem dX12_lay_6 : decode cX12_lay 6 = .ok (.iconst 1, 1) := by decide +kernel
theorem dX12_lay_7 : decode cX12_lay 7 = .ok (.goto 4, 3) := by decide +kernel
theorem dX12_lay_10 : decode cX12_lay 10 = .ok (.iconst 0, 1) := by decide +kernel
theorem dX12_lay_11 : decode cX12_lay 11 = .ok (.istore_n 3, 1) := by decide +kernel
theorem dX12_lay_12 : decode cX12_lay 12 = .ok (.aload_n 0, 1) := by decide +kernel
theorem dX12_lay_13 : decode cX12_lay 13 = .ok (.getfield 270, 3) := by decide +kernel
theorem dX12_lay_16 : decode cX12_lay 16 = .ok (.iconst 1, 1) := by decide +kernel
theorem dX12_lay_17 : decode cX12_lay 17 = .ok (.isub, 1) := by decide +kernel
theorem dX12_lay_18 : decode cX12_lay 18 = .ok (.istore 4, 2) := by decide +kernel
theorem dX12_lay_20 : decode cX12_lay 20 = .ok (.iload 4, 2) := by decide +kernel
theorem dX12_lay_22 : decode cX12_lay 22 = .ok (.ifCond .lt 51, 3) := by decide +kernel
theorem dX12_lay_25 : decode cX12_lay 25 = .ok (.aload_n 0, 1) := by decide +kernel
theorem dX12_lay_26 : decode cX12_lay 26 = .ok (.getfield 72, 3) := by decide +kernel
theorem dX12_lay_29 : decode cX12_lay 29 = .ok (.iload 4, 2) := by decide +kernel
theorem dX12_lay_31 : decode cX12_lay 31 = .ok (.iload_n 2, 1) := by decide +kernel
theorem dX12_lay_32 : decode cX12_lay 32 = .ok (.bipush 10, 2) := by decide +kernel
theorem dX12_lay_34 : decode cX12_lay 34 = .ok (.irem, 1) := by decide +kernel
theorem dX12_lay_35 : decode cX12_lay 35 = .ok (.iastore, 1) := by decide +kernel
theorem dX12_lay_36 : decode cX12_lay 36 = .ok (.iload_n 2, 1) := by decide +kernel
theorem dX12_lay_37 : decode cX12_lay 37 = .ok (.bipush 10, 2) := by decide +kernel
theorem dX12_lay_39 : decode cX12_lay 39 = .ok (.idiv, 1) := by decide +kernel
theorem dX12_lay_40 : decode cX12_lay 40 = .ok (.istore_n 2, 1) := by decide +kernel
theorem dX12_lay_41 : decode cX12_lay 41 = .ok (.iload_n 3, 1) := by decide +kernel
theorem dX12_lay_42 : decode cX12_lay 42 = .ok (.ifCond .eq 23, 3) := by decide +kernel
theorem dX12_lay_45 : decode cX12_lay 45 = .ok (.aload_n 0, 1) := by decide +kernel
theorem dX12_lay_46 : decode cX12_lay 46 = .ok (.getfield 72, 3) := by decide +kernel
theorem dX12_lay_49 : decode cX12_lay 49 = .ok (.iload 4, 2) := by decide +kernel
theorem dX12_lay_51 : decode cX12_lay 51 = .ok (.iaload, 1) := by decide +kernel
theorem dX12_lay_52 : decode cX12_lay 52 = .ok (.aload_n 0, 1) := by decide +kernel
theorem dX12_lay_53 : decode cX12_lay 53 = .ok (.getfield 43, 3) := by decide +kernel
theorem dX12_lay_56 : decode cX12_lay 56 = .ok (.iconst 4, 1) := by decide +kernel
theorem dX12_lay_57 : decode cX12_lay 57 = .ok (.iaload, 1) := by decide +kernel
theorem dX12_lay_58 : decode cX12_lay 58 = .ok (.if_icmp .gt 7, 3) := by decide +kernel
theorem dX12_lay_61 : decode cX12_lay 61 = .ok (.iconst 1, 1) := by decide +kernel
theorem dX12_lay_62 : decode cX12_lay 62 = .ok (.goto 4, 3) := by decide +kernel
theorem dX12_lay_65 : decode cX12_lay 65 = .ok (.iconst 0, 1) := by decide +kernel
theorem dX12_lay_66 : decode cX12_lay 66 = .ok (.istore_n 3, 1) := by decide +kernel
theorem dX12_lay_67 : decode cX12_lay 67 = .ok (.iinc 4 (-1), 3) := by decide +kernel
theorem dX12_lay_70 : decode cX12_lay 70 = .ok (.goto (-50), 3) := by decide +kernel
theorem dX12_lay_73 : decode cX12_lay 73 = .ok (.iload_n 3, 1) := by decide +kernel
theorem dX12_lay_74 : decode cX12_lay 74 = .ok (.ifCond .eq 11, 3) := by decide +kernel
theorem dX12_lay_77 : decode cX12_lay 77 = .ok (.iload_n 2, 1) := by decide +kernel
theorem dX12_lay_78 : decode cX12_lay 78 = .ok (.ifCond .ne 7, 3) := by decide +kernel
theorem dX12_lay_81 : decode cX12_lay 81 = .ok (.iconst 1, 1) := by decide +kernel
theorem dX12_lay_82 : decode cX12_lay 82 = .ok (.goto 4, 3) := by decide +kernel
theorem dX12_lay_85 : decode cX12_lay 85 = .ok (.iconst 0, 1) := by decide +kernel
theorem dX12_lay_86 : decode cX12_lay 86 = .ok (.ireturn, 1) := by decide +kernel
def m_lay_86 (N : Nat) (s0 : Int) (w : aw_W) : Option (Int × aw_W) :=
  if s0 = 0 ∨ s0 = 1 then
    some (s0, w)
  else none
theorem w_m_lay_86 {l : Launch} {K : aw_K} (N d : Nat) : ∀ (s0 : Int) (w : aw_W) (y : Int) (v : aw_W), m_lay_86 N s0 w = some (y, v) → aw_AW l K MX12_lay (d) 86 [] [.inl s0] w (some (.inl y), v) := by
  intro s0 w y v h
  unfold m_lay_86 at h
  obtain ⟨hz, h⟩ := aw_cks h
  cases h
  exact aw_zret (pc := 86) rfl hz dX12_lay_86
def m_lay_85 (N : Nat) (w : aw_W) : Option (Int × aw_W) :=
  m_lay_86 N 0 w
theorem w_m_lay_85 {l : Launch} {K : aw_K} (N d : Nat) : ∀ (w : aw_W) (y : Int) (v : aw_W), m_lay_85 N w = some (y, v) → aw_AW l K MX12_lay (d) 85 [] [] w (some (.inl y), v) := by
  intro w y v h
  unfold m_lay_85 at h
  refine aw_iconst (pc := 85) dX12_lay_85 ⟨by decide, by decide⟩ ?_
  exact aw_sel [] rfl (w_m_lay_86 N d  _ _ _ _ h)
def m_lay_73 (N : Nat) (x2 x3 : Int) (w : aw_W) : Option (Int × aw_W) :=
  if x3 = 0 then
    m_lay_85 N w
  else
    if x2 = 0 then
      m_lay_86 N 1 w
    else
      m_lay_85 N w
theorem w_m_lay_73 {l : Launch} {K : aw_K} (N d : Nat) : ∀ (x2 x3 : Int) (w : aw_W) (y : Int) (v : aw_W), m_lay_73 N x2 x3 w = some (y, v) → aw_AW l K MX12_lay (d) 73 [(2, .inl x2), (3, .inl x3)] [] w (some (.inl y), v) := by
  intro x2 x3 w y v h
  unfold m_lay_73 at h
  refine aw_iload_n (pc := 73) (q := 1) dX12_lay_73 rfl ?_
  refine aw_if_eq (pc := 74) (tgt := 85) dX12_lay_74 (by decide) (fun hc => ?_) (fun hc => ?_)
  · rw [if_pos hc] at h
    exact aw_sel [] rfl (w_m_lay_85 N d  _ _ _ h)
  · rw [if_neg hc] at h
    refine aw_iload_n (pc := 77) (q := 0) dX12_lay_77 rfl ?_
    refine aw_if_ne (pc := 78) (tgt := 85) dX12_lay_78 (by decide) (fun hc => ?_) (fun hc => ?_)
    · rw [if_neg hc] at h
      exact aw_sel [] rfl (w_m_lay_85 N d  _ _ _ h)
    · rw [if_pos hc] at h
      refine aw_iconst (pc := 81) dX12_lay_81 ⟨by decide, by decide⟩ ?_
      refine aw_goto (pc := 82) (tgt := 86) dX12_lay_82 (by decide) ?_
      exact aw_sel [] rfl (w_m_lay_86 N d  _ _ _ _ h)
def m_lay_66 (N : Nat) (k20 : Int → Int → Int → aw_W → Option (Int × aw_W)) (x2 x4 s0 : Int) (w : aw_W) : Option (Int × aw_W) :=
  k20 x2 s0 (aw_w (x4 + (-1))) w
theorem w_m_lay_66 {l : Launch} {K : aw_K} (N d : Nat) (k20 : Int → Int → Int → aw_W → Option (Int × aw_W)) (hk20 : ∀ (x2 x3 x4 : Int) (w : aw_W) (y : Int) (v : aw_W), k20 x2 x3 x4 w = some (y, v) → aw_AW l K MX12_lay (d) 20 [(0, .inr (.inr 49)), (2, .inl x2), (3, .inl x3), (4, .inl x4)] [] w (some (.inl y), v)) : ∀ (x2 x4 s0 : Int) (w : aw_W) (y : Int) (v : aw_W), m_lay_66 N k20 x2 x4 s0 w = some (y, v) → aw_AW l K MX12_lay (d) 66 [(0, .inr (.inr 49)), (2, .inl x2), (4, .inl x4)] [.inl s0] w (some (.inl y), v) := by
  intro x2 x4 s0 w y v h
  unfold m_lay_66 at h
  refine aw_istore_n (pc := 66) (ls' := [(3, .inl s0), (0, .inr (.inr 49)), (2, .inl x2), (4, .inl x4)]) dX12_lay_66 (by decide) rfl ?_
  refine aw_iinc (pc := 67) (q := 3) (ls' := [(4, .inl (aw_w (x4 + (-1)))), (3, .inl s0), (0, .inr (.inr 49)), (2, .inl x2)]) dX12_lay_67 rfl (by decide) rfl ?_
  refine aw_goto (pc := 70) (tgt := 20) dX12_lay_70 (by decide) ?_
  exact aw_sel [2, 3, 1, 0] rfl (hk20 _ _ _ _ _ _ h)
def m_lay_65 (N : Nat) (k20 : Int → Int → Int → aw_W → Option (Int × aw_W)) (x2 x4 : Int) (w : aw_W) : Option (Int × aw_W) :=
  m_lay_66 N k20 x2 x4 0 w
theorem w_m_lay_65 {l : Launch} {K : aw_K} (N d : Nat) (k20 : Int → Int → Int → aw_W → Option (Int × aw_W)) (hk20 : ∀ (x2 x3 x4 : Int) (w : aw_W) (y : Int) (v : aw_W), k20 x2 x3 x4 w = some (y, v) → aw_AW l K MX12_lay (d) 20 [(0, .inr (.inr 49)), (2, .inl x2), (3, .inl x3), (4, .inl x4)] [] w (some (.inl y), v)) : ∀ (x2 x4 : Int) (w : aw_W) (y : Int) (v : aw_W), m_lay_65 N k20 x2 x4 w = some (y, v) → aw_AW l K MX12_lay (d) 65 [(0, .inr (.inr 49)), (2, .inl x2), (4, .inl x4)] [] w (some (.inl y), v) := by
  intro x2 x4 w y v h
  unfold m_lay_65 at h
  refine aw_iconst (pc := 65) dX12_lay_65 ⟨by decide, by decide⟩ ?_
  exact aw_sel [0, 1, 2] rfl (w_m_lay_66 N d  _ hk20 _ _ _ _ _ _ h)
def m_lay_20 (N : Nat) : Nat → Int → Int → Int → aw_W → Option (Int × aw_W)
  | 0, _, _, _, _ => none
  | n + 1, x2, x3, x4, w =>
    if x4 < 0 then
      m_lay_73 N x2 x3 w
    else
      if 0 ≤ x4 ∧ x4 < 6 then
        if x3 = 0 then
          m_lay_65 N (m_lay_20 N n) (aw_w (Int.tdiv x2 10)) x4 (aw_up w 64 x4.toNat (aw_w (Int.tmod x2 10)))
        else
          if 0 ≤ x4 ∧ x4 < 6 then
            if (w 56 4) < ((aw_up w 64 x4.toNat (aw_w (Int.tmod x2 10))) 64 x4.toNat) then
              m_lay_65 N (m_lay_20 N n) (aw_w (Int.tdiv x2 10)) x4 (aw_up w 64 x4.toNat (aw_w (Int.tmod x2 10)))
            else
              m_lay_66 N (m_lay_20 N n) (aw_w (Int.tdiv x2 10)) x4 1 (aw_up w 64 x4.toNat (aw_w (Int.tmod x2 10)))
          else none
      else none
theorem w_m_lay_20 {l : Launch} {K : aw_K} (N d : Nat) : ∀ (n : Nat) (x2 x3 x4 : Int) (w : aw_W) (y : Int) (v : aw_W), m_lay_20 N n x2 x3 x4 w = some (y, v) → aw_AW l K MX12_lay (d) 20 [(0, .inr (.inr 49)), (2, .inl x2), (3, .inl x3), (4, .inl x4)] [] w (some (.inl y), v) := by
  intro n
  induction n with
  | zero => intro x2 x3 x4 w y v h; rw [m_lay_20] at h; cases h
  | succ n ih =>
    intro x2 x3 x4 w y v h
    rw [m_lay_20] at h
    refine aw_iload (pc := 20) (q := 3) dX12_lay_20 rfl ?_
    refine aw_if_lt (pc := 22) (tgt := 73) dX12_lay_22 (by decide) (fun hc => ?_) (fun hc => ?_)
    · rw [if_pos hc] at h
      exact aw_sel [1, 2] rfl (w_m_lay_73 N d  _ _ _ _ _ h)
    · rw [if_neg hc] at h
      refine aw_aload_n (pc := 25) (q := 0) dX12_lay_25 rfl ?_
      refine aw_getf (pc := 26) (v := .inr (.inr 64)) dX12_lay_26 fl_RX12_72 (by decide) rfl rfl rfl ?_
      refine aw_iload (pc := 29) (q := 3) dX12_lay_29 rfl ?_
      refine aw_iload_n (pc := 31) (q := 1) dX12_lay_31 rfl ?_
      refine aw_bipush (pc := 32) dX12_lay_32 (by decide) ⟨by decide, by decide⟩ ?_
      refine aw_irem (pc := 34) dX12_lay_34 (by decide) ?_
      obtain ⟨hb, h⟩ := aw_cks h
      refine aw_iast (pc := 35) dX12_lay_35 rfl hb.1 hb.2 ?_
      refine aw_iload_n (pc := 36) (q := 1) dX12_lay_36 rfl ?_
      refine aw_bipush (pc := 37) dX12_lay_37 (by decide) ⟨by decide, by decide⟩ ?_
      refine aw_idiv (pc := 39) dX12_lay_39 (by decide) ?_
      refine aw_istore_n (pc := 40) (ls' := [(2, .inl (aw_w (Int.tdiv x2 10))), (0, .inr (.inr 49)), (3, .inl x3), (4, .inl x4)]) dX12_lay_40 (by decide) rfl ?_
      refine aw_iload_n (pc := 41) (q := 2) dX12_lay_41 rfl ?_
      refine aw_if_eq (pc := 42) (tgt := 65) dX12_lay_42 (by decide) (fun hc => ?_) (fun hc => ?_)
      · rw [if_pos hc] at h
        exact aw_sel [1, 0, 3] rfl (w_m_lay_65 N d  _ ih _ _ _ _ _ h)
      · rw [if_neg hc] at h
        refine aw_aload_n (pc := 45) (q := 1) dX12_lay_45 rfl ?_
        refine aw_getf (pc := 46) (v := .inr (.inr 64)) dX12_lay_46 fl_RX12_72 (by decide) rfl rfl rfl ?_
        refine aw_iload (pc := 49) (q := 3) dX12_lay_49 rfl ?_
        obtain ⟨hb, h⟩ := aw_cks h
        refine aw_ialdv (pc := 51) (v := (aw_up w 64 x4.toNat (aw_w (Int.tmod x2 10))) 64 x4.toNat) dX12_lay_51 rfl hb.1 hb.2 rfl ?_
        refine aw_aload_n (pc := 52) (q := 1) dX12_lay_52 rfl ?_
        refine aw_getf (pc := 53) (v := .inr (.inr 56)) dX12_lay_53 fl_RX12_43 (by decide) rfl rfl rfl ?_
        refine aw_iconst (pc := 56) dX12_lay_56 ⟨by decide, by decide⟩ ?_
        refine aw_ialdv (pc := 57) (v := w 56 4) dX12_lay_57 rfl (by decide) (by decide) rfl ?_
        refine aw_icmp_gt (pc := 58) (tgt := 65) dX12_lay_58 (by decide) (fun hc => ?_) (fun hc => ?_)
        · rw [if_pos hc] at h
          exact aw_sel [1, 0, 3] rfl (w_m_lay_65 N d  _ ih _ _ _ _ _ h)
        · rw [if_neg hc] at h
          refine aw_iconst (pc := 61) dX12_lay_61 ⟨by decide, by decide⟩ ?_
          refine aw_goto (pc := 62) (tgt := 66) dX12_lay_62 (by decide) ?_
          exact aw_sel [1, 0, 3] rfl (w_m_lay_66 N d  _ ih _ _ _ _ _ _ h)
def m_lay_11 (N : Nat) (x2 s0 : Int) (w : aw_W) : Option (Int × aw_W) :=
  m_lay_20 N N x2 s0 (aw_w ((w 49 22) - 1)) w
theorem w_m_lay_11 {l : Launch} {K : aw_K} (N d : Nat) : ∀ (x2 s0 : Int) (w : aw_W) (y : Int) (v : aw_W), m_lay_11 N x2 s0 w = some (y, v) → aw_AW l K MX12_lay (d) 11 [(0, .inr (.inr 49)), (2, .inl x2)] [.inl s0] w (some (.inl y), v) := by
  intro x2 s0 w y v h
  unfold m_lay_11 at h
  refine aw_istore_n (pc := 11) (ls' := [(3, .inl s0), (0, .inr (.inr 49)), (2, .inl x2)]) dX12_lay_11 (by decide) rfl ?_
  refine aw_aload_n (pc := 12) (q := 1) dX12_lay_12 rfl ?_
  refine aw_getf (pc := 13) (v := .inl (w 49 22)) dX12_lay_13 fl_RX12_270 (by decide) rfl rfl rfl ?_
  refine aw_iconst (pc := 16) dX12_lay_16 ⟨by decide, by decide⟩ ?_
  refine aw_isub (pc := 17) dX12_lay_17 ?_
  refine aw_istore (pc := 18) (ls' := [(4, .inl (aw_w ((w 49 22) - 1))), (3, .inl s0), (0, .inr (.inr 49)), (2, .inl x2)]) dX12_lay_18 (by decide) rfl ?_
  exact aw_sel [2, 3, 1, 0] rfl (w_m_lay_20 N d  N _ _ _ _ _ _ h)
def m_lay (N : Nat) (x1 : Int) (w : aw_W) : Option (Int × aw_W) :=
  if x1 < 0 then
    m_lay_11 N x1 0 w
  else
    m_lay_11 N x1 1 w
theorem w_m_lay {l : Launch} {K : aw_K} (N d : Nat) (hd : 0 ≤ d) : ∀ (x1 : Int) (w : aw_W) (y : Int) (v : aw_W), m_lay N x1 w = some (y, v) → aw_Met l K MX12_lay (d) [.inr (.inr 49), .inl x1] w (some (.inl y), v) := by
  intro x1 w y v h
  unfold m_lay at h
  refine aw_enter rfl (Nat.le_of_ble_eq_true rfl) ?_
  show aw_AW l K MX12_lay (d) 0 [(0, .inr (.inr 49)), (1, .inl x1)] [] w (some (.inl y), v)
  refine aw_iload_n (pc := 0) (q := 1) dX12_lay_0 rfl ?_
  refine aw_istore_n (pc := 1) (ls' := [(2, .inl x1), (0, .inr (.inr 49)), (1, .inl x1)]) dX12_lay_1 (by decide) rfl ?_
  refine aw_iload_n (pc := 2) (q := 2) dX12_lay_2 rfl ?_
  refine aw_if_lt (pc := 3) (tgt := 10) dX12_lay_3 (by decide) (fun hc => ?_) (fun hc => ?_)
  · rw [if_pos hc] at h
    refine aw_iconst (pc := 10) dX12_lay_10 ⟨by decide, by decide⟩ ?_
    exact aw_sel [1, 0] rfl (w_m_lay_11 N d  _ _ _ _ _ h)
  · rw [if_neg hc] at h
    refine aw_iconst (pc := 6) dX12_lay_6 ⟨by decide, by decide⟩ ?_
    refine aw_goto (pc := 7) (tgt := 11) dX12_lay_7 (by decide) ?_
    exact aw_sel [1, 0] rfl (w_m_lay_11 N d  _ _ _ _ _ h)
theorem dX12_judge_0 : decode cX12_judge 0 = .ok (.iconst 0, 1) := by decide +kernel
theorem dX12_judge_1 : decode cX12_judge 1 = .ok (.istore_n 1, 1) := by decide +kernel
theorem dX12_judge_2 : decode cX12_judge 2 = .ok (.iload_n 1, 1) := by decide +kernel
theorem dX12_judge_3 : decode cX12_judge 3 = .ok (.aload_n 0, 1) := by decide +kernel
theorem dX12_judge_4 : decode cX12_judge 4 = .ok (.getfield 270, 3) := by decide +kernel
theorem dX12_judge_7 : decode cX12_judge 7 = .ok (.if_icmp .ge 28, 3) := by decide +kernel
theorem dX12_judge_10 : decode cX12_judge 10 = .ok (.aload_n 0, 1) := by decide +kernel
theorem dX12_judge_11 : decode cX12_judge 11 = .ok (.getfield 55, 3) := by decide +kernel
theorem dX12_judge_14 : decode cX12_judge 14 = .ok (.iload_n 1, 1) := by decide +kernel
theorem dX12_judge_15 : decode cX12_judge 15 = .ok (.iconst 0, 1) := by decide +kernel
theorem dX12_judge_16 : decode cX12_judge 16 = .ok (.bastore, 1) := by decide +kernel
theorem dX12_judge_17 : decode cX12_judge 17 = .ok (.aload_n 0, 1) := by decide +kernel
theorem dX12_judge_18 : decode cX12_judge 18 = .ok (.getfield 52, 3) := by decide +kernel
theorem dX12_judge_21 : decode cX12_judge 21 = .ok (.iload_n 1, 1) := by decide +kernel
theorem dX12_judge_22 : decode cX12_judge 22 = .ok (.aload_n 0, 1) := by decide +kernel
theorem dX12_judge_23 : decode cX12_judge 23 = .ok (.getfield 72, 3) := by decide +kernel
theorem dX12_judge_26 : decode cX12_judge 26 = .ok (.iload_n 1, 1) := by decide +kernel
theorem dX12_judge_27 : decode cX12_judge 27 = .ok (.iaload, 1) := by decide +kernel
theorem dX12_judge_28 : decode cX12_judge 28 = .ok (.iastore, 1) := by decide +kernel
theorem dX12_judge_29 : decode cX12_judge 29 = .ok (.iinc 1 1, 3) := by decide +kernel
theorem dX12_judge_32 : decode cX12_judge 32 = .ok (.goto (-30), 3) := by decide +kernel
theorem dX12_judge_35 : decode cX12_judge 35 = .ok (.return_, 1) := by decide +kernel
def m_judge_35 (N : Nat) (w : aw_W) : Option (aw_W) :=
  some w
theorem w_m_judge_35 {l : Launch} {K : aw_K} (N d : Nat) : ∀ (w v : aw_W), m_judge_35 N w = some v → aw_AW l K MX12_judge (d) 35 [] [] w (none, v) := by
  intro w v h
  unfold m_judge_35 at h
  cases h
  exact aw_vret (pc := 35) rfl dX12_judge_35
def m_judge_2 (N : Nat) : Nat → Int → aw_W → Option (aw_W)
  | 0, _, _ => none
  | n + 1, x1, w =>
    if (w 49 22) ≤ x1 then
      m_judge_35 N w
    else
      if 0 ≤ x1 ∧ x1 < 6 then
        if 0 ≤ x1 ∧ x1 < 6 then
          if 0 ≤ x1 ∧ x1 < 6 then
            m_judge_2 N n (aw_w (x1 + 1)) (aw_up (aw_up w 60 x1.toNat 0) 59 x1.toNat (w 64 x1.toNat))
          else none
        else none
      else none
theorem w_m_judge_2 {l : Launch} {K : aw_K} (N d : Nat) : ∀ (n : Nat) (x1 : Int) (w v : aw_W), m_judge_2 N n x1 w = some v → aw_AW l K MX12_judge (d) 2 [(0, .inr (.inr 49)), (1, .inl x1)] [] w (none, v) := by
  intro n
  induction n with
  | zero => intro x1 w v h; rw [m_judge_2] at h; cases h
  | succ n ih =>
    intro x1 w v h
    rw [m_judge_2] at h
    refine aw_iload_n (pc := 2) (q := 1) dX12_judge_2 rfl ?_
    refine aw_aload_n (pc := 3) (q := 0) dX12_judge_3 rfl ?_
    refine aw_getf (pc := 4) (v := .inl (w 49 22)) dX12_judge_4 fl_RX12_270 (by decide) rfl rfl rfl ?_
    refine aw_icmp_ge (pc := 7) (tgt := 35) dX12_judge_7 (by decide) (fun hc => ?_) (fun hc => ?_)
    · rw [if_pos hc] at h
      exact aw_sel [] rfl (w_m_judge_35 N d  _ _ h)
    · rw [if_neg hc] at h
      refine aw_aload_n (pc := 10) (q := 0) dX12_judge_10 rfl ?_
      refine aw_getf (pc := 11) (v := .inr (.inr 60)) dX12_judge_11 fl_RX12_55 (by decide) rfl rfl rfl ?_
      refine aw_iload_n (pc := 14) (q := 1) dX12_judge_14 rfl ?_
      refine aw_iconst (pc := 15) dX12_judge_15 ⟨by decide, by decide⟩ ?_
      obtain ⟨hb, h⟩ := aw_cks h
      refine aw_zast (pc := 16) dX12_judge_16 rfl hb.1 hb.2 (by decide) ?_
      refine aw_aload_n (pc := 17) (q := 0) dX12_judge_17 rfl ?_
      refine aw_getf (pc := 18) (v := .inr (.inr 59)) dX12_judge_18 fl_RX12_52 (by decide) rfl rfl rfl ?_
      refine aw_iload_n (pc := 21) (q := 1) dX12_judge_21 rfl ?_
      refine aw_aload_n (pc := 22) (q := 0) dX12_judge_22 rfl ?_
      refine aw_getf (pc := 23) (v := .inr (.inr 64)) dX12_judge_23 fl_RX12_72 (by decide) rfl rfl rfl ?_
      refine aw_iload_n (pc := 26) (q := 1) dX12_judge_26 rfl ?_
      obtain ⟨hb, h⟩ := aw_cks h
      refine aw_ialdv (pc := 27) (v := w 64 x1.toNat) dX12_judge_27 rfl hb.1 hb.2 rfl ?_
      obtain ⟨hb, h⟩ := aw_cks h
      refine aw_iast (pc := 28) dX12_judge_28 rfl hb.1 hb.2 ?_
      refine aw_iinc (pc := 29) (q := 1) (ls' := [(1, .inl (aw_w (x1 + 1))), (0, .inr (.inr 49))]) dX12_judge_29 rfl (by decide) rfl ?_
      refine aw_goto (pc := 32) (tgt := 2) dX12_judge_32 (by decide) ?_
      exact aw_sel [1, 0] rfl (ih _ _ _ h)
def m_judge (N : Nat) (w : aw_W) : Option (aw_W) :=
  m_judge_2 N N 0 w
theorem w_m_judge {l : Launch} {K : aw_K} (N d : Nat) (hd : 0 ≤ d) : ∀ (w v : aw_W), m_judge N w = some v → aw_Met l K MX12_judge (d) [.inr (.inr 49)] w (none, v) := by
  intro w v h
  unfold m_judge at h
  refine aw_enter rfl (Nat.le_of_ble_eq_true rfl) ?_
  show aw_AW l K MX12_judge (d) 0 [(0, .inr (.inr 49))] [] w (none, v)
  refine aw_iconst (pc := 0) dX12_judge_0 ⟨by decide, by decide⟩ ?_
  refine aw_istore_n (pc := 1) (ls' := [(1, .inl 0), (0, .inr (.inr 49))]) dX12_judge_1 (by decide) rfl ?_
  exact aw_sel [1, 0] rfl (w_m_judge_2 N d  N _ _ _ h)
theorem dX12_isAhead_0 : decode cX12_isAhead 0 = .ok (.iload_n 1, 1) := by decide +kernel
theorem dX12_isAhead_1 : decode cX12_isAhead 1 = .ok (.iload_n 2, 1) := by decide +kernel
theorem dX12_isAhead_2 : decode cX12_isAhead 2 = .ok (.if_icmp .eq 12, 3) := by decide +kernel
theorem dX12_isAhead_5 : decode cX12_isAhead 5 = .ok (.aload_n 0, 1) := by decide +kernel
theorem dX12_isAhead_6 : decode cX12_isAhead 6 = .ok (.getfield 55, 3) := by decide +kernel
theorem dX12_isAhead_9 : decode cX12_isAhead 9 = .ok (.iload_n 1, 1) := by decide +kernel
theorem dX12_isAhead_10 : decode cX12_isAhead 10 = .ok (.baload, 1) := by decide +kernel
theorem dX12_isAhead_11 : decode cX12_isAhead 11 = .ok (.ifCond .eq 5, 3) := by decide +kernel
theorem dX12_isAhead_14 : decode cX12_isAhead 14 = .ok (.iconst 0, 1) := by decide +kernel
theorem dX12_isAhead_15 : decode cX12_isAhead 15 = .ok (.ireturn, 1) := by decide +kernel
theorem dX12_isAhead_16 : decode cX12_isAhead 16 = .ok (.aload_n 0, 1) := by decide +kernel
theorem dX12_isAhead_17 : decode cX12_isAhead 17 = .ok (.getfield 55, 3) := by decide +kernel
theorem dX12_isAhead_20 : decode cX12_isAhead 20 = .ok (.iload_n 2, 1) := by decide +kernel
theorem dX12_isAhead_21 : decode cX12_isAhead 21 = .ok (.baload, 1) := by decide +kernel
theorem dX12_isAhead_22 : decode cX12_isAhead 22 = .ok (.ifCond .ne 18, 3) := by decide +kernel
theorem dX12_isAhead_25 : decode cX12_isAhead 25 = .ok (.aload_n 0, 1) := by decide +kernel
theorem dX12_isAhead_26 : decode cX12_isAhead 26 = .ok (.getfield 52, 3) := by decide +kernel
theorem dX12_isAhead_29 : decode cX12_isAhead 29 = .ok (.iload_n 1, 1) := by decide +kernel
theorem dX12_isAhead_30 : decode cX12_isAhead 30 = .ok (.iaload, 1) := by decide +kernel
theorem dX12_isAhead_31 : decode cX12_isAhead 31 = .ok (.aload_n 0, 1) := by decide +kernel
theorem dX12_isAhead_32 : decode cX12_isAhead 32 = .ok (.getfield 52, 3) := by decide +kernel
theorem dX12_isAhead_35 : decode cX12_isAhead 35 = .ok (.iload_n 2, 1) := by decide +kernel
theorem dX12_isAhead_36 : decode cX12_isAhead 36 = .ok (.iaload, 1) := by decide +kernel
theorem dX12_isAhead_37 : decode cX12_isAhead 37 = .ok (.if_icmp .eq 33, 3) := by decide +kernel
theorem dX12_isAhead_40 : decode cX12_isAhead 40 = .ok (.aload_n 0, 1) := by decide +kernel
theorem dX12_isAhead_41 : decode cX12_isAhead 41 = .ok (.getfield 55, 3) := by decide +kernel
theorem dX12_isAhead_44 : decode cX12_isAhead 44 = .ok (.iload_n 2, 1) := by decide +kernel
theorem dX12_isAhead_45 : decode cX12_isAhead 45 = .ok (.baload, 1) := by decide +kernel
theorem dX12_isAhead_46 : decode cX12_isAhead 46 = .ok (.ifCond .ne 18, 3) := by decide +kernel
theorem dX12_isAhead_49 : decode cX12_isAhead 49 = .ok (.aload_n 0, 1) := by decide +kernel
theorem dX12_isAhead_50 : decode cX12_isAhead 50 = .ok (.getfield 52, 3) := by decide +kernel
theorem dX12_isAhead_53 : decode cX12_isAhead 53 = .ok (.iload_n 1, 1) := by decide +kernel
theorem dX12_isAhead_54 : decode cX12_isAhead 54 = .ok (.iaload, 1) := by decide +kernel
theorem dX12_isAhead_55 : decode cX12_isAhead 55 = .ok (.aload_n 0, 1) := by decide +kernel
theorem dX12_isAhead_56 : decode cX12_isAhead 56 = .ok (.getfield 52, 3) := by decide +kernel
theorem dX12_isAhead_59 : decode cX12_isAhead 59 = .ok (.iload_n 2, 1) := by decide +kernel
theorem dX12_isAhead_60 : decode cX12_isAhead 60 = .ok (.iaload, 1) := by decide +kernel
theorem dX12_isAhead_61 : decode cX12_isAhead 61 = .ok (.if_icmp .le 7, 3) := by decide +kernel
theorem dX12_isAhead_64 : decode cX12_isAhead 64 = .ok (.iconst 1, 1) := by decide +kernel
theorem dX12_isAhead_65 : decode cX12_isAhead 65 = .ok (.goto 4, 3) := by decide +kernel
theorem dX12_isAhead_68 : decode cX12_isAhead 68 = .ok (.iconst 0, 1) := by decide +kernel
theorem dX12_isAhead_69 : decode cX12_isAhead 69 = .ok (.ireturn, 1) := by decide +kernel
theorem dX12_isAhead_70 : decode cX12_isAhead 70 = .ok (.aload_n 0, 1) := by decide +kernel
theorem dX12_isAhead_71 : decode cX12_isAhead 71 = .ok (.getfield 43, 3) := by decide +kernel
theorem dX12_isAhead_74 : decode cX12_isAhead 74 = .ok (.iconst 1, 1) := by decide +kernel
theorem dX12_isAhead_75 : decode cX12_isAhead 75 = .ok (.iaload, 1) := by decide +kernel
theorem dX12_isAhead_76 : decode cX12_isAhead 76 = .ok (.ifCond .ne 12, 3) := by decide +kernel
theorem dX12_isAhead_79 : decode cX12_isAhead 79 = .ok (.iload_n 1, 1) := by decide +kernel
theorem dX12_isAhead_80 : decode cX12_isAhead 80 = .ok (.iload_n 2, 1) := by decide +kernel
theorem dX12_isAhead_81 : decode cX12_isAhead 81 = .ok (.if_icmp .ge 7, 3) := by decide +kernel
theorem dX12_isAhead_84 : decode cX12_isAhead 84 = .ok (.iconst 1, 1) := by decide +kernel
theorem dX12_isAhead_85 : decode cX12_isAhead 85 = .ok (.goto 4, 3) := by decide +kernel
theorem dX12_isAhead_88 : decode cX12_isAhead 88 = .ok (.iconst 0, 1) := by decide +kernel
theorem dX12_isAhead_89 : decode cX12_isAhead 89 = .ok (.ireturn, 1) := by decide +kernel
def m_isAhead_14 (N : Nat) (w : aw_W) : Option (Int × aw_W) :=
  some (0, w)
theorem w_m_isAhead_14 {l : Launch} {K : aw_K} (N d : Nat) : ∀ (w : aw_W) (y : Int) (v : aw_W), m_isAhead_14 N w = some (y, v) → aw_AW l K MX12_isAhead (d) 14 [] [] w (some (.inl y), v) := by
  intro w y v h
  unfold m_isAhead_14 at h
  refine aw_iconst (pc := 14) dX12_isAhead_14 ⟨by decide, by decide⟩ ?_
  cases h
  exact aw_zret (pc := 15) rfl (by decide) dX12_isAhead_15
def m_isAhead_69 (N : Nat) (s0 : Int) (w : aw_W) : Option (Int × aw_W) :=
  if s0 = 0 ∨ s0 = 1 then
    some (s0, w)
  else none
theorem w_m_isAhead_69 {l : Launch} {K : aw_K} (N d : Nat) : ∀ (s0 : Int) (w : aw_W) (y : Int) (v : aw_W), m_isAhead_69 N s0 w = some (y, v) → aw_AW l K MX12_isAhead (d) 69 [] [.inl s0] w (some (.inl y), v) := by
  intro s0 w y v h
  unfold m_isAhead_69 at h
  obtain ⟨hz, h⟩ := aw_cks h
  cases h
  exact aw_zret (pc := 69) rfl hz dX12_isAhead_69
def m_isAhead_64 (N : Nat) (w : aw_W) : Option (Int × aw_W) :=
  m_isAhead_69 N 1 w
theorem w_m_isAhead_64 {l : Launch} {K : aw_K} (N d : Nat) : ∀ (w : aw_W) (y : Int) (v : aw_W), m_isAhead_64 N w = some (y, v) → aw_AW l K MX12_isAhead (d) 64 [] [] w (some (.inl y), v) := by
  intro w y v h
  unfold m_isAhead_64 at h
  refine aw_iconst (pc := 64) dX12_isAhead_64 ⟨by decide, by decide⟩ ?_
  refine aw_goto (pc := 65) (tgt := 69) dX12_isAhead_65 (by decide) ?_
  exact aw_sel [] rfl (w_m_isAhead_69 N d  _ _ _ _ h)
def m_isAhead_40 (N : Nat) (x1 x2 : Int) (w : aw_W) : Option (Int × aw_W) :=
  if 0 ≤ x2 ∧ x2 < 6 then
    if (w 60 x2.toNat) = 0 then
      if 0 ≤ x1 ∧ x1 < 6 then
        if 0 ≤ x2 ∧ x2 < 6 then
          if (w 59 x1.toNat) ≤ (w 59 x2.toNat) then
            m_isAhead_69 N 0 w
          else
            m_isAhead_64 N w
        else none
      else none
    else
      m_isAhead_64 N w
  else none
theorem w_m_isAhead_40 {l : Launch} {K : aw_K} (N d : Nat) : ∀ (x1 x2 : Int) (w : aw_W) (y : Int) (v : aw_W), m_isAhead_40 N x1 x2 w = some (y, v) → aw_AW l K MX12_isAhead (d) 40 [(0, .inr (.inr 49)), (1, .inl x1), (2, .inl x2)] [] w (some (.inl y), v) := by
  intro x1 x2 w y v h
  unfold m_isAhead_40 at h
  refine aw_aload_n (pc := 40) (q := 0) dX12_isAhead_40 rfl ?_
  refine aw_getf (pc := 41) (v := .inr (.inr 60)) dX12_isAhead_41 fl_RX12_55 (by decide) rfl rfl rfl ?_
  refine aw_iload_n (pc := 44) (q := 2) dX12_isAhead_44 rfl ?_
  obtain ⟨hb, h⟩ := aw_cks h
  refine aw_zaldv (pc := 45) (v := w 60 x2.toNat) dX12_isAhead_45 rfl hb.1 hb.2 rfl ?_
  refine aw_if_ne (pc := 46) (tgt := 64) dX12_isAhead_46 (by decide) (fun hc => ?_) (fun hc => ?_)
  · rw [if_neg hc] at h
    exact aw_sel [] rfl (w_m_isAhead_64 N d  _ _ _ h)
  · rw [if_pos hc] at h
    refine aw_aload_n (pc := 49) (q := 0) dX12_isAhead_49 rfl ?_
    refine aw_getf (pc := 50) (v := .inr (.inr 59)) dX12_isAhead_50 fl_RX12_52 (by decide) rfl rfl rfl ?_
    refine aw_iload_n (pc := 53) (q := 1) dX12_isAhead_53 rfl ?_
    obtain ⟨hb, h⟩ := aw_cks h
    refine aw_ialdv (pc := 54) (v := w 59 x1.toNat) dX12_isAhead_54 rfl hb.1 hb.2 rfl ?_
    refine aw_aload_n (pc := 55) (q := 0) dX12_isAhead_55 rfl ?_
    refine aw_getf (pc := 56) (v := .inr (.inr 59)) dX12_isAhead_56 fl_RX12_52 (by decide) rfl rfl rfl ?_
    refine aw_iload_n (pc := 59) (q := 2) dX12_isAhead_59 rfl ?_
    obtain ⟨hb, h⟩ := aw_cks h
    refine aw_ialdv (pc := 60) (v := w 59 x2.toNat) dX12_isAhead_60 rfl hb.1 hb.2 rfl ?_
    refine aw_icmp_le (pc := 61) (tgt := 68) dX12_isAhead_61 (by decide) (fun hc => ?_) (fun hc => ?_)
    · rw [if_pos hc] at h
      refine aw_iconst (pc := 68) dX12_isAhead_68 ⟨by decide, by decide⟩ ?_
      exact aw_sel [] rfl (w_m_isAhead_69 N d  _ _ _ _ h)
    · rw [if_neg hc] at h
      exact aw_sel [] rfl (w_m_isAhead_64 N d  _ _ _ h)
def m_isAhead_89 (N : Nat) (s0 : Int) (w : aw_W) : Option (Int × aw_W) :=
  if s0 = 0 ∨ s0 = 1 then
    some (s0, w)
  else none
theorem w_m_isAhead_89 {l : Launch} {K : aw_K} (N d : Nat) : ∀ (s0 : Int) (w : aw_W) (y : Int) (v : aw_W), m_isAhead_89 N s0 w = some (y, v) → aw_AW l K MX12_isAhead (d) 89 [] [.inl s0] w (some (.inl y), v) := by
  intro s0 w y v h
  unfold m_isAhead_89 at h
  obtain ⟨hz, h⟩ := aw_cks h
  cases h
  exact aw_zret (pc := 89) rfl hz dX12_isAhead_89
def m_isAhead_88 (N : Nat) (w : aw_W) : Option (Int × aw_W) :=
  m_isAhead_89 N 0 w
theorem w_m_isAhead_88 {l : Launch} {K : aw_K} (N d : Nat) : ∀ (w : aw_W) (y : Int) (v : aw_W), m_isAhead_88 N w = some (y, v) → aw_AW l K MX12_isAhead (d) 88 [] [] w (some (.inl y), v) := by
  intro w y v h
  unfold m_isAhead_88 at h
  refine aw_iconst (pc := 88) dX12_isAhead_88 ⟨by decide, by decide⟩ ?_
  exact aw_sel [] rfl (w_m_isAhead_89 N d  _ _ _ _ h)
def m_isAhead (N : Nat) (x1 x2 : Int) (w : aw_W) : Option (Int × aw_W) :=
  if x1 = x2 then
    m_isAhead_14 N w
  else
    if 0 ≤ x1 ∧ x1 < 6 then
      if (w 60 x1.toNat) = 0 then
        if 0 ≤ x2 ∧ x2 < 6 then
          if (w 60 x2.toNat) = 0 then
            if 0 ≤ x1 ∧ x1 < 6 then
              if 0 ≤ x2 ∧ x2 < 6 then
                if (w 59 x1.toNat) = (w 59 x2.toNat) then
                  if (w 56 1) = 0 then
                    if x2 ≤ x1 then
                      m_isAhead_88 N w
                    else
                      m_isAhead_89 N 1 w
                  else
                    m_isAhead_88 N w
                else
                  m_isAhead_40 N x1 x2 w
              else none
            else none
          else
            m_isAhead_40 N x1 x2 w
        else none
      else
        m_isAhead_14 N w
    else none
theorem w_m_isAhead {l : Launch} {K : aw_K} (N d : Nat) (hd : 0 ≤ d) : ∀ (x1 x2 : Int) (w : aw_W) (y : Int) (v : aw_W), m_isAhead N x1 x2 w = some (y, v) → aw_Met l K MX12_isAhead (d) [.inr (.inr 49), .inl x1, .inl x2] w (some (.inl y), v) := by
  intro x1 x2 w y v h
  unfold m_isAhead at h
  refine aw_enter rfl (Nat.le_of_ble_eq_true rfl) ?_
  show aw_AW l K MX12_isAhead (d) 0 [(0, .inr (.inr 49)), (1, .inl x1), (2, .inl x2)] [] w (some (.inl y), v)
  refine aw_iload_n (pc := 0) (q := 1) dX12_isAhead_0 rfl ?_
  refine aw_iload_n (pc := 1) (q := 2) dX12_isAhead_1 rfl ?_
  refine aw_icmp_eq (pc := 2) (tgt := 14) dX12_isAhead_2 (by decide) (fun hc => ?_) (fun hc => ?_)
  · rw [if_pos hc] at h
    exact aw_sel [] rfl (w_m_isAhead_14 N d  _ _ _ h)
  · rw [if_neg hc] at h
    refine aw_aload_n (pc := 5) (q := 0) dX12_isAhead_5 rfl ?_
    refine aw_getf (pc := 6) (v := .inr (.inr 60)) dX12_isAhead_6 fl_RX12_55 (by decide) rfl rfl rfl ?_
    refine aw_iload_n (pc := 9) (q := 1) dX12_isAhead_9 rfl ?_
    obtain ⟨hb, h⟩ := aw_cks h
    refine aw_zaldv (pc := 10) (v := w 60 x1.toNat) dX12_isAhead_10 rfl hb.1 hb.2 rfl ?_
    refine aw_if_eq (pc := 11) (tgt := 16) dX12_isAhead_11 (by decide) (fun hc => ?_) (fun hc => ?_)
    · rw [if_pos hc] at h
      refine aw_aload_n (pc := 16) (q := 0) dX12_isAhead_16 rfl ?_
      refine aw_getf (pc := 17) (v := .inr (.inr 60)) dX12_isAhead_17 fl_RX12_55 (by decide) rfl rfl rfl ?_
      refine aw_iload_n (pc := 20) (q := 2) dX12_isAhead_20 rfl ?_
      obtain ⟨hb, h⟩ := aw_cks h
      refine aw_zaldv (pc := 21) (v := w 60 x2.toNat) dX12_isAhead_21 rfl hb.1 hb.2 rfl ?_
      refine aw_if_ne (pc := 22) (tgt := 40) dX12_isAhead_22 (by decide) (fun hc => ?_) (fun hc => ?_)
      · rw [if_neg hc] at h
        exact aw_sel [0, 1, 2] rfl (w_m_isAhead_40 N d  _ _ _ _ _ h)
      · rw [if_pos hc] at h
        refine aw_aload_n (pc := 25) (q := 0) dX12_isAhead_25 rfl ?_
        refine aw_getf (pc := 26) (v := .inr (.inr 59)) dX12_isAhead_26 fl_RX12_52 (by decide) rfl rfl rfl ?_
        refine aw_iload_n (pc := 29) (q := 1) dX12_isAhead_29 rfl ?_
        obtain ⟨hb, h⟩ := aw_cks h
        refine aw_ialdv (pc := 30) (v := w 59 x1.toNat) dX12_isAhead_30 rfl hb.1 hb.2 rfl ?_
        refine aw_aload_n (pc := 31) (q := 0) dX12_isAhead_31 rfl ?_
        refine aw_getf (pc := 32) (v := .inr (.inr 59)) dX12_isAhead_32 fl_RX12_52 (by decide) rfl rfl rfl ?_
        refine aw_iload_n (pc := 35) (q := 2) dX12_isAhead_35 rfl ?_
        obtain ⟨hb, h⟩ := aw_cks h
        refine aw_ialdv (pc := 36) (v := w 59 x2.toNat) dX12_isAhead_36 rfl hb.1 hb.2 rfl ?_
        refine aw_icmp_eq (pc := 37) (tgt := 70) dX12_isAhead_37 (by decide) (fun hc => ?_) (fun hc => ?_)
        · rw [if_pos hc] at h
          refine aw_aload_n (pc := 70) (q := 0) dX12_isAhead_70 rfl ?_
          refine aw_getf (pc := 71) (v := .inr (.inr 56)) dX12_isAhead_71 fl_RX12_43 (by decide) rfl rfl rfl ?_
          refine aw_iconst (pc := 74) dX12_isAhead_74 ⟨by decide, by decide⟩ ?_
          refine aw_ialdv (pc := 75) (v := w 56 1) dX12_isAhead_75 rfl (by decide) (by decide) rfl ?_
          refine aw_if_ne (pc := 76) (tgt := 88) dX12_isAhead_76 (by decide) (fun hc => ?_) (fun hc => ?_)
          · rw [if_neg hc] at h
            exact aw_sel [] rfl (w_m_isAhead_88 N d  _ _ _ h)
          · rw [if_pos hc] at h
            refine aw_iload_n (pc := 79) (q := 1) dX12_isAhead_79 rfl ?_
            refine aw_iload_n (pc := 80) (q := 2) dX12_isAhead_80 rfl ?_
            refine aw_icmp_ge (pc := 81) (tgt := 88) dX12_isAhead_81 (by decide) (fun hc => ?_) (fun hc => ?_)
            · rw [if_pos hc] at h
              exact aw_sel [] rfl (w_m_isAhead_88 N d  _ _ _ h)
            · rw [if_neg hc] at h
              refine aw_iconst (pc := 84) dX12_isAhead_84 ⟨by decide, by decide⟩ ?_
              refine aw_goto (pc := 85) (tgt := 89) dX12_isAhead_85 (by decide) ?_
              exact aw_sel [] rfl (w_m_isAhead_89 N d  _ _ _ _ h)
        · rw [if_neg hc] at h
          exact aw_sel [0, 1, 2] rfl (w_m_isAhead_40 N d  _ _ _ _ _ h)
    · rw [if_neg hc] at h
      exact aw_sel [] rfl (w_m_isAhead_14 N d  _ _ _ h)
theorem dX12_aheadOf_0 : decode cX12_aheadOf 0 = .ok (.iconst 0, 1) := by decide +kernel
theorem dX12_aheadOf_1 : decode cX12_aheadOf 1 = .ok (.istore_n 2, 1) := by decide +kernel
theorem dX12_aheadOf_2 : decode cX12_aheadOf 2 = .ok (.iconst 0, 1) := by decide +kernel
theorem dX12_aheadOf_3 : decode cX12_aheadOf 3 = .ok (.istore_n 3, 1) := by decide +kernel
theorem dX12_aheadOf_4 : decode cX12_aheadOf 4 = .ok (.iload_n 3, 1) := by decide +kernel
theorem dX12_aheadOf_5 : decode cX12_aheadOf 5 = .ok (.aload_n 0, 1) := by decide +kernel
theorem dX12_aheadOf_6 : decode cX12_aheadOf 6 = .ok (.getfield 270, 3) := by decide +kernel
theorem dX12_aheadOf_9 : decode cX12_aheadOf 9 = .ok (.if_icmp .ge 26, 3) := by decide +kernel
theorem dX12_aheadOf_12 : decode cX12_aheadOf 12 = .ok (.iload_n 2, 1) := by decide +kernel
theorem dX12_aheadOf_13 : decode cX12_aheadOf 13 = .ok (.aload_n 0, 1) := by decide +kernel
theorem dX12_aheadOf_14 : decode cX12_aheadOf 14 = .ok (.iload_n 3, 1) := by decide +kernel
theorem dX12_aheadOf_15 : decode cX12_aheadOf 15 = .ok (.iload_n 1, 1) := by decide +kernel
theorem dX12_aheadOf_16 : decode cX12_aheadOf 16 = .ok (.invokevirtual 287, 3) := by decide +kernel
theorem dX12_aheadOf_19 : decode cX12_aheadOf 19 = .ok (.ifCond .eq 7, 3) := by decide +kernel
theorem dX12_aheadOf_22 : decode cX12_aheadOf 22 = .ok (.iconst 1, 1) := by decide +kernel
theorem dX12_aheadOf_23 : decode cX12_aheadOf 23 = .ok (.goto 4, 3) := by decide +kernel
theorem dX12_aheadOf_26 : decode cX12_aheadOf 26 = .ok (.iconst 0, 1) := by decide +kernel
theorem dX12_aheadOf_27 : decode cX12_aheadOf 27 = .ok (.iadd, 1) := by decide +kernel
theorem dX12_aheadOf_28 : decode cX12_aheadOf 28 = .ok (.istore_n 2, 1) := by decide +kernel
theorem dX12_aheadOf_29 : decode cX12_aheadOf 29 = .ok (.iinc 3 1, 3) := by decide +kernel
theorem dX12_aheadOf_32 : decode cX12_aheadOf 32 = .ok (.goto (-28), 3) := by decide +kernel
theorem dX12_aheadOf_35 : decode cX12_aheadOf 35 = .ok (.iload_n 2, 1) := by decide +kernel
theorem dX12_aheadOf_36 : decode cX12_aheadOf 36 = .ok (.ireturn, 1) := by decide +kernel
def m_aheadOf_35 (N : Nat) (x2 : Int) (w : aw_W) : Option (Int × aw_W) :=
  some (x2, w)
theorem w_m_aheadOf_35 {l : Launch} {K : aw_K} (N d : Nat) (hd : 0 ≤ d) : ∀ (x2 : Int) (w : aw_W) (y : Int) (v : aw_W), m_aheadOf_35 N x2 w = some (y, v) → aw_AW l K MX12_aheadOf (d + 1) 35 [(2, .inl x2)] [] w (some (.inl y), v) := by
  intro x2 w y v h
  unfold m_aheadOf_35 at h
  refine aw_iload_n (pc := 35) (q := 0) dX12_aheadOf_35 rfl ?_
  cases h
  exact aw_iret (pc := 36) rfl dX12_aheadOf_36
def m_aheadOf_27 (N : Nat) (k4 : Int → Int → Int → aw_W → Option (Int × aw_W)) (x1 x3 s0 s1 : Int) (w : aw_W) : Option (Int × aw_W) :=
  k4 x1 (aw_w (s1 + s0)) (aw_w (x3 + 1)) w
theorem w_m_aheadOf_27 {l : Launch} {K : aw_K} (N d : Nat) (hd : 0 ≤ d) (k4 : Int → Int → Int → aw_W → Option (Int × aw_W)) (hk4 : ∀ (x1 x2 x3 : Int) (w : aw_W) (y : Int) (v : aw_W), k4 x1 x2 x3 w = some (y, v) → aw_AW l K MX12_aheadOf (d + 1) 4 [(0, .inr (.inr 49)), (1, .inl x1), (2, .inl x2), (3, .inl x3)] [] w (some (.inl y), v)) : ∀ (x1 x3 s0 s1 : Int) (w : aw_W) (y : Int) (v : aw_W), m_aheadOf_27 N k4 x1 x3 s0 s1 w = some (y, v) → aw_AW l K MX12_aheadOf (d + 1) 27 [(0, .inr (.inr 49)), (1, .inl x1), (3, .inl x3)] [.inl s0, .inl s1] w (some (.inl y), v) := by
  intro x1 x3 s0 s1 w y v h
  unfold m_aheadOf_27 at h
  refine aw_iadd (pc := 27) dX12_aheadOf_27 ?_
  refine aw_istore_n (pc := 28) (ls' := [(2, .inl (aw_w (s1 + s0))), (0, .inr (.inr 49)), (1, .inl x1), (3, .inl x3)]) dX12_aheadOf_28 (by decide) rfl ?_
  refine aw_iinc (pc := 29) (q := 3) (ls' := [(3, .inl (aw_w (x3 + 1))), (2, .inl (aw_w (s1 + s0))), (0, .inr (.inr 49)), (1, .inl x1)]) dX12_aheadOf_29 rfl (by decide) rfl ?_
  refine aw_goto (pc := 32) (tgt := 4) dX12_aheadOf_32 (by decide) ?_
  exact aw_sel [2, 3, 1, 0] rfl (hk4 _ _ _ _ _ _ h)
def m_aheadOf_4 (N : Nat) : Nat → Int → Int → Int → aw_W → Option (Int × aw_W)
  | 0, _, _, _, _ => none
  | n + 1, x1, x2, x3, w =>
    if (w 49 22) ≤ x3 then
      m_aheadOf_35 N x2 w
    else
      aw_b2 (m_isAhead N x3 x1 w) fun r1 w1 =>
        if r1 = 0 then
          m_aheadOf_27 N (m_aheadOf_4 N n) x1 x3 0 x2 w1
        else
          m_aheadOf_27 N (m_aheadOf_4 N n) x1 x3 1 x2 w1
theorem w_m_aheadOf_4 {l : Launch} {K : aw_K} (N d : Nat) (hd : 0 ≤ d) : ∀ (n : Nat) (x1 x2 x3 : Int) (w : aw_W) (y : Int) (v : aw_W), m_aheadOf_4 N n x1 x2 x3 w = some (y, v) → aw_AW l K MX12_aheadOf (d + 1) 4 [(0, .inr (.inr 49)), (1, .inl x1), (2, .inl x2), (3, .inl x3)] [] w (some (.inl y), v) := by
  intro n
  induction n with
  | zero => intro x1 x2 x3 w y v h; rw [m_aheadOf_4] at h; cases h
  | succ n ih =>
    intro x1 x2 x3 w y v h
    rw [m_aheadOf_4] at h
    refine aw_iload_n (pc := 4) (q := 3) dX12_aheadOf_4 rfl ?_
    refine aw_aload_n (pc := 5) (q := 0) dX12_aheadOf_5 rfl ?_
    refine aw_getf (pc := 6) (v := .inl (w 49 22)) dX12_aheadOf_6 fl_RX12_270 (by decide) rfl rfl rfl ?_
    refine aw_icmp_ge (pc := 9) (tgt := 35) dX12_aheadOf_9 (by decide) (fun hc => ?_) (fun hc => ?_)
    · rw [if_pos hc] at h
      exact aw_sel [2] rfl (w_m_aheadOf_35 N d hd  _ _ _ _ h)
    · rw [if_neg hc] at h
      refine aw_iload_n (pc := 12) (q := 2) dX12_aheadOf_12 rfl ?_
      refine aw_aload_n (pc := 13) (q := 0) dX12_aheadOf_13 rfl ?_
      refine aw_iload_n (pc := 14) (q := 3) dX12_aheadOf_14 rfl ?_
      refine aw_iload_n (pc := 15) (q := 1) dX12_aheadOf_15 rfl ?_
      obtain ⟨r1, w1, h1, h⟩ := aw_b2s h
      refine aw_callV (pc := 16) (as := [.inl x3, .inl x1]) (st := [.inl x2]) (st' := [.inl r1, .inl x2]) dX12_aheadOf_16 cv_RX12_287 (by decide) rfl rfl rfl rfl (Nat.le_of_ble_eq_true rfl) (w_m_isAhead N d (by omega) _ _ _ _ _ h1) rfl ?_
      refine aw_if_eq (pc := 19) (tgt := 26) dX12_aheadOf_19 (by decide) (fun hc => ?_) (fun hc => ?_)
      · rw [if_pos hc] at h
        refine aw_iconst (pc := 26) dX12_aheadOf_26 ⟨by decide, by decide⟩ ?_
        exact aw_sel [0, 1, 3] rfl (w_m_aheadOf_27 N d hd  _ ih _ _ _ _ _ _ _ h)
      · rw [if_neg hc] at h
        refine aw_iconst (pc := 22) dX12_aheadOf_22 ⟨by decide, by decide⟩ ?_
        refine aw_goto (pc := 23) (tgt := 27) dX12_aheadOf_23 (by decide) ?_
        exact aw_sel [0, 1, 3] rfl (w_m_aheadOf_27 N d hd  _ ih _ _ _ _ _ _ _ h)
def m_aheadOf (N : Nat) (x1 : Int) (w : aw_W) : Option (Int × aw_W) :=
  m_aheadOf_4 N N x1 0 0 w
theorem w_m_aheadOf_d {l : Launch} {K : aw_K} (N d : Nat) (hd : 0 ≤ d) : ∀ (x1 : Int) (w : aw_W) (y : Int) (v : aw_W), m_aheadOf N x1 w = some (y, v) → aw_Met l K MX12_aheadOf (d + 1) [.inr (.inr 49), .inl x1] w (some (.inl y), v) := by
  intro x1 w y v h
  unfold m_aheadOf at h
  refine aw_enter rfl (Nat.le_of_ble_eq_true rfl) ?_
  show aw_AW l K MX12_aheadOf (d + 1) 0 [(0, .inr (.inr 49)), (1, .inl x1)] [] w (some (.inl y), v)
  refine aw_iconst (pc := 0) dX12_aheadOf_0 ⟨by decide, by decide⟩ ?_
  refine aw_istore_n (pc := 1) (ls' := [(2, .inl 0), (0, .inr (.inr 49)), (1, .inl x1)]) dX12_aheadOf_1 (by decide) rfl ?_
  refine aw_iconst (pc := 2) dX12_aheadOf_2 ⟨by decide, by decide⟩ ?_
  refine aw_istore_n (pc := 3) (ls' := [(3, .inl 0), (2, .inl 0), (0, .inr (.inr 49)), (1, .inl x1)]) dX12_aheadOf_3 (by decide) rfl ?_
  exact aw_sel [2, 3, 1, 0] rfl (w_m_aheadOf_4 N d hd  N _ _ _ _ _ _ h)
theorem w_m_aheadOf {l : Launch} {K : aw_K} (N d : Nat) (hd : 1 ≤ d) : ∀ (x1 : Int) (w : aw_W) (y : Int) (v : aw_W), m_aheadOf N x1 w = some (y, v) → aw_Met l K MX12_aheadOf (d) [.inr (.inr 49), .inl x1] w (some (.inl y), v) := by
  obtain ⟨e, rfl⟩ : ∃ e, d = e + 1 := ⟨d - 1, by omega⟩
  exact w_m_aheadOf_d N e (by omega)
theorem dX12_areAlike_0 : decode cX12_areAlike 0 = .ok (.iload_n 1, 1) := by decide +kernel
theorem dX12_areAlike_1 : decode cX12_areAlike 1 = .ok (.iload_n 2, 1) := by decide +kernel
theorem dX12_areAlike_2 : decode cX12_areAlike 2 = .ok (.if_icmp .eq 50, 3) := by decide +kernel
theorem dX12_areAlike_5 : decode cX12_areAlike 5 = .ok (.aload_n 0, 1) := by decide +kernel
theorem dX12_areAlike_6 : decode cX12_areAlike 6 = .ok (.getfield 55, 3) := by decide +kernel
theorem dX12_areAlike_9 : decode cX12_areAlike 9 = .ok (.iload_n 1, 1) := by decide +kernel
theorem dX12_areAlike_10 : decode cX12_areAlike 10 = .ok (.baload, 1) := by decide +kernel
theorem dX12_areAlike_11 : decode cX12_areAlike 11 = .ok (.ifCond .ne 41, 3) := by decide +kernel
theorem dX12_areAlike_14 : decode cX12_areAlike 14 = .ok (.aload_n 0, 1) := by decide +kernel
theorem dX12_areAlike_15 : decode cX12_areAlike 15 = .ok (.getfield 55, 3) := by decide +kernel
theorem dX12_areAlike_18 : decode cX12_areAlike 18 = .ok (.iload_n 2, 1) := by decide +kernel
theorem dX12_areAlike_19 : decode cX12_areAlike 19 = .ok (.baload, 1) := by decide +kernel
theorem dX12_areAlike_20 : decode cX12_areAlike 20 = .ok (.ifCond .ne 32, 3) := by decide +kernel
theorem dX12_areAlike_23 : decode cX12_areAlike 23 = .ok (.aload_n 0, 1) := by decide +kernel
theorem dX12_areAlike_24 : decode cX12_areAlike 24 = .ok (.getfield 52, 3) := by decide +kernel
theorem dX12_areAlike_27 : decode cX12_areAlike 27 = .ok (.iload_n 1, 1) := by decide +kernel
theorem dX12_areAlike_28 : decode cX12_areAlike 28 = .ok (.iaload, 1) := by decide +kernel
theorem dX12_areAlike_29 : decode cX12_areAlike 29 = .ok (.aload_n 0, 1) := by decide +kernel
theorem dX12_areAlike_30 : decode cX12_areAlike 30 = .ok (.getfield 52, 3) := by decide +kernel
theorem dX12_areAlike_33 : decode cX12_areAlike 33 = .ok (.iload_n 2, 1) := by decide +kernel
theorem dX12_areAlike_34 : decode cX12_areAlike 34 = .ok (.iaload, 1) := by decide +kernel
theorem dX12_areAlike_35 : decode cX12_areAlike 35 = .ok (.if_icmp .ne 17, 3) := by decide +kernel
theorem dX12_areAlike_38 : decode cX12_areAlike 38 = .ok (.aload_n 0, 1) := by decide +kernel
theorem dX12_areAlike_39 : decode cX12_areAlike 39 = .ok (.getfield 43, 3) := by decide +kernel
theorem dX12_areAlike_42 : decode cX12_areAlike 42 = .ok (.iconst 1, 1) := by decide +kernel
theorem dX12_areAlike_43 : decode cX12_areAlike 43 = .ok (.iaload, 1) := by decide +kernel
theorem dX12_areAlike_44 : decode cX12_areAlike 44 = .ok (.iconst 1, 1) := by decide +kernel
theorem dX12_areAlike_45 : decode cX12_areAlike 45 = .ok (.if_icmp .ne 7, 3) := by decide +kernel
theorem dX12_areAlike_48 : decode cX12_areAlike 48 = .ok (.iconst 1, 1) := by decide +kernel
theorem dX12_areAlike_49 : decode cX12_areAlike 49 = .ok (.goto 4, 3) := by decide +kernel
theorem dX12_areAlike_52 : decode cX12_areAlike 52 = .ok (.iconst 0, 1) := by decide +kernel
theorem dX12_areAlike_53 : decode cX12_areAlike 53 = .ok (.ireturn, 1) := by decide +kernel
def m_areAlike_53 (N : Nat) (s0 : Int) (w : aw_W) : Option (Int × aw_W) :=
  if s0 = 0 ∨ s0 = 1 then
    some (s0, w)
  else none
theorem w_m_areAlike_53 {l : Launch} {K : aw_K} (N d : Nat) : ∀ (s0 : Int) (w : aw_W) (y : Int) (v : aw_W), m_areAlike_53 N s0 w = some (y, v) → aw_AW l K MX12_areAlike (d) 53 [] [.inl s0] w (some (.inl y), v) := by
  intro s0 w y v h
  unfold m_areAlike_53 at h
  obtain ⟨hz, h⟩ := aw_cks h
  cases h
  exact aw_zret (pc := 53) rfl hz dX12_areAlike_53
def m_areAlike_52 (N : Nat) (w : aw_W) : Option (Int × aw_W) :=
  m_areAlike_53 N 0 w
theorem w_m_areAlike_52 {l : Launch} {K : aw_K} (N d : Nat) : ∀ (w : aw_W) (y : Int) (v : aw_W), m_areAlike_52 N w = some (y, v) → aw_AW l K MX12_areAlike (d) 52 [] [] w (some (.inl y), v) := by
  intro w y v h
  unfold m_areAlike_52 at h
  refine aw_iconst (pc := 52) dX12_areAlike_52 ⟨by decide, by decide⟩ ?_
  exact aw_sel [] rfl (w_m_areAlike_53 N d  _ _ _ _ h)
def m_areAlike (N : Nat) (x1 x2 : Int) (w : aw_W) : Option (Int × aw_W) :=
  if x1 = x2 then
    m_areAlike_52 N w
  else
    if 0 ≤ x1 ∧ x1 < 6 then
      if (w 60 x1.toNat) = 0 then
        if 0 ≤ x2 ∧ x2 < 6 then
          if (w 60 x2.toNat) = 0 then
            if 0 ≤ x1 ∧ x1 < 6 then
              if 0 ≤ x2 ∧ x2 < 6 then
                if (w 59 x1.toNat) = (w 59 x2.toNat) then
                  if (w 56 1) = 1 then
                    m_areAlike_53 N 1 w
                  else
                    m_areAlike_52 N w
                else
                  m_areAlike_52 N w
              else none
            else none
          else
            m_areAlike_52 N w
        else none
      else
        m_areAlike_52 N w
    else none
theorem w_m_areAlike {l : Launch} {K : aw_K} (N d : Nat) (hd : 0 ≤ d) : ∀ (x1 x2 : Int) (w : aw_W) (y : Int) (v : aw_W), m_areAlike N x1 x2 w = some (y, v) → aw_Met l K MX12_areAlike (d) [.inr (.inr 49), .inl x1, .inl x2] w (some (.inl y), v) := by
  intro x1 x2 w y v h
  unfold m_areAlike at h
  refine aw_enter rfl (Nat.le_of_ble_eq_true rfl) ?_
  show aw_AW l K MX12_areAlike (d) 0 [(0, .inr (.inr 49)), (1, .inl x1), (2, .inl x2)] [] w (some (.inl y), v)
  refine aw_iload_n (pc := 0) (q := 1) dX12_areAlike_0 rfl ?_
  refine aw_iload_n (pc := 1) (q := 2) dX12_areAlike_1 rfl ?_
  refine aw_icmp_eq (pc := 2) (tgt := 52) dX12_areAlike_2 (by decide) (fun hc => ?_) (fun hc => ?_)
  · rw [if_pos hc] at h
    exact aw_sel [] rfl (w_m_areAlike_52 N d  _ _ _ h)
  · rw [if_neg hc] at h
    refine aw_aload_n (pc := 5) (q := 0) dX12_areAlike_5 rfl ?_
    refine aw_getf (pc := 6) (v := .inr (.inr 60)) dX12_areAlike_6 fl_RX12_55 (by decide) rfl rfl rfl ?_
    refine aw_iload_n (pc := 9) (q := 1) dX12_areAlike_9 rfl ?_
    obtain ⟨hb, h⟩ := aw_cks h
    refine aw_zaldv (pc := 10) (v := w 60 x1.toNat) dX12_areAlike_10 rfl hb.1 hb.2 rfl ?_
    refine aw_if_ne (pc := 11) (tgt := 52) dX12_areAlike_11 (by decide) (fun hc => ?_) (fun hc => ?_)
    · rw [if_neg hc] at h
      exact aw_sel [] rfl (w_m_areAlike_52 N d  _ _ _ h)
    · rw [if_pos hc] at h
      refine aw_aload_n (pc := 14) (q := 0) dX12_areAlike_14 rfl ?_
      refine aw_getf (pc := 15) (v := .inr (.inr 60)) dX12_areAlike_15 fl_RX12_55 (by decide) rfl rfl rfl ?_
      refine aw_iload_n (pc := 18) (q := 2) dX12_areAlike_18 rfl ?_
      obtain ⟨hb, h⟩ := aw_cks h
      refine aw_zaldv (pc := 19) (v := w 60 x2.toNat) dX12_areAlike_19 rfl hb.1 hb.2 rfl ?_
      refine aw_if_ne (pc := 20) (tgt := 52) dX12_areAlike_20 (by decide) (fun hc => ?_) (fun hc => ?_)
      · rw [if_neg hc] at h
        exact aw_sel [] rfl (w_m_areAlike_52 N d  _ _ _ h)
      · rw [if_pos hc] at h
        refine aw_aload_n (pc := 23) (q := 0) dX12_areAlike_23 rfl ?_
        refine aw_getf (pc := 24) (v := .inr (.inr 59)) dX12_areAlike_24 fl_RX12_52 (by decide) rfl rfl rfl ?_
        refine aw_iload_n (pc := 27) (q := 1) dX12_areAlike_27 rfl ?_
        obtain ⟨hb, h⟩ := aw_cks h
        refine aw_ialdv (pc := 28) (v := w 59 x1.toNat) dX12_areAlike_28 rfl hb.1 hb.2 rfl ?_
        refine aw_aload_n (pc := 29) (q := 0) dX12_areAlike_29 rfl ?_
        refine aw_getf (pc := 30) (v := .inr (.inr 59)) dX12_areAlike_30 fl_RX12_52 (by decide) rfl rfl rfl ?_
        refine aw_iload_n (pc := 33) (q := 2) dX12_areAlike_33 rfl ?_
        obtain ⟨hb, h⟩ := aw_cks h
        refine aw_ialdv (pc := 34) (v := w 59 x2.toNat) dX12_areAlike_34 rfl hb.1 hb.2 rfl ?_
        refine aw_icmp_ne (pc := 35) (tgt := 52) dX12_areAlike_35 (by decide) (fun hc => ?_) (fun hc => ?_)
        · rw [if_neg hc] at h
          exact aw_sel [] rfl (w_m_areAlike_52 N d  _ _ _ h)
        · rw [if_pos hc] at h
          refine aw_aload_n (pc := 38) (q := 0) dX12_areAlike_38 rfl ?_
          refine aw_getf (pc := 39) (v := .inr (.inr 56)) dX12_areAlike_39 fl_RX12_43 (by decide) rfl rfl rfl ?_
          refine aw_iconst (pc := 42) dX12_areAlike_42 ⟨by decide, by decide⟩ ?_
          refine aw_ialdv (pc := 43) (v := w 56 1) dX12_areAlike_43 rfl (by decide) (by decide) rfl ?_
          refine aw_iconst (pc := 44) dX12_areAlike_44 ⟨by decide, by decide⟩ ?_
          refine aw_icmp_ne (pc := 45) (tgt := 52) dX12_areAlike_45 (by decide) (fun hc => ?_) (fun hc => ?_)
          · rw [if_neg hc] at h
            exact aw_sel [] rfl (w_m_areAlike_52 N d  _ _ _ h)
          · rw [if_pos hc] at h
            refine aw_iconst (pc := 48) dX12_areAlike_48 ⟨by decide, by decide⟩ ?_
            refine aw_goto (pc := 49) (tgt := 53) dX12_areAlike_49 (by decide) ?_
            exact aw_sel [] rfl (w_m_areAlike_53 N d  _ _ _ _ h)
theorem dX12_winner_0 : decode cX12_winner 0 = .ok (.iconst 0, 1) := by decide +kernel
theorem dX12_winner_1 : decode cX12_winner 1 = .ok (.istore_n 1, 1) := by decide +kernel
theorem dX12_winner_2 : decode cX12_winner 2 = .ok (.iload_n 1, 1) := by decide +kernel
theorem dX12_winner_3 : decode cX12_winner 3 = .ok (.aload_n 0, 1) := by decide +kernel
theorem dX12_winner_4 : decode cX12_winner 4 = .ok (.getfield 270, 3) := by decide +kernel
theorem dX12_winner_7 : decode cX12_winner 7 = .ok (.if_icmp .ge 80, 3) := by decide +kernel
theorem dX12_winner_10 : decode cX12_winner 10 = .ok (.aload_n 0, 1) := by decide +kernel
theorem dX12_winner_11 : decode cX12_winner 11 = .ok (.getfield 55, 3) := by decide +kernel
theorem dX12_winner_14 : decode cX12_winner 14 = .ok (.iload_n 1, 1) := by decide +kernel
theorem dX12_winner_15 : decode cX12_winner 15 = .ok (.baload, 1) := by decide +kernel
theorem dX12_winner_16 : decode cX12_winner 16 = .ok (.ifCond .ne 65, 3) := by decide +kernel
theorem dX12_winner_19 : decode cX12_winner 19 = .ok (.aload_n 0, 1) := by decide +kernel
theorem dX12_winner_20 : decode cX12_winner 20 = .ok (.iload_n 1, 1) := by decide +kernel
theorem dX12_winner_21 : decode cX12_winner 21 = .ok (.invokevirtual 290, 3) := by decide +kernel
theorem dX12_winner_24 : decode cX12_winner 24 = .ok (.aload_n 0, 1) := by decide +kernel
theorem dX12_winner_25 : decode cX12_winner 25 = .ok (.getfield 43, 3) := by decide +kernel
theorem dX12_winner_28 : decode cX12_winner 28 = .ok (.iconst 0, 1) := by decide +kernel
theorem dX12_winner_29 : decode cX12_winner 29 = .ok (.iaload, 1) := by decide +kernel
theorem dX12_winner_30 : decode cX12_winner 30 = .ok (.iconst 1, 1) := by decide +kernel
theorem dX12_winner_31 : decode cX12_winner 31 = .ok (.isub, 1) := by decide +kernel
theorem dX12_winner_32 : decode cX12_winner 32 = .ok (.if_icmp .eq 6, 3) := by decide +kernel
theorem dX12_winner_35 : decode cX12_winner 35 = .ok (.goto 46, 3) := by decide +kernel
theorem dX12_winner_38 : decode cX12_winner 38 = .ok (.iconst 1, 1) := by decide +kernel
theorem dX12_winner_39 : decode cX12_winner 39 = .ok (.istore_n 2, 1) := by decide +kernel
theorem dX12_winner_40 : decode cX12_winner 40 = .ok (.iconst 0, 1) := by decide +kernel
theorem dX12_winner_41 : decode cX12_winner 41 = .ok (.istore_n 3, 1) := by decide +kernel
theorem dX12_winner_42 : decode cX12_winner 42 = .ok (.iload_n 3, 1) := by decide +kernel
theorem dX12_winner_43 : decode cX12_winner 43 = .ok (.aload_n 0, 1) := by decide +kernel
theorem dX12_winner_44 : decode cX12_winner 44 = .ok (.getfield 270, 3) := by decide +kernel
theorem dX12_winner_47 : decode cX12_winner 47 = .ok (.if_icmp .ge 28, 3) := by decide +kernel
theorem dX12_winner_50 : decode cX12_winner 50 = .ok (.iload_n 2, 1) := by decide +kernel
theorem dX12_winner_51 : decode cX12_winner 51 = .ok (.ifCond .eq 16, 3) := by decide +kernel
theorem dX12_winner_54 : decode cX12_winner 54 = .ok (.aload_n 0, 1) := by decide +kernel
theorem dX12_winner_55 : decode cX12_winner 55 = .ok (.iload_n 3, 1) := by decide +kernel
theorem dX12_winner_56 : decode cX12_winner 56 = .ok (.iload_n 1, 1) := by decide +kernel
theorem dX12_winner_57 : decode cX12_winner 57 = .ok (.invokevirtual 293, 3) := by decide +kernel
theorem dX12_winner_60 : decode cX12_winner 60 = .ok (.ifCond .ne 7, 3) := by decide +kernel
theorem dX12_winner_63 : decode cX12_winner 63 = .ok (.iconst 1, 1) := by decide +kernel
theorem dX12_winner_64 : decode cX12_winner 64 = .ok (.goto 4, 3) := by decide +kernel
theorem dX12_winner_67 : decode cX12_winner 67 = .ok (.iconst 0, 1) := by decide +kernel
theorem dX12_winner_68 : decode cX12_winner 68 = .ok (.istore_n 2, 1) := by decide +kernel
theorem dX12_winner_69 : decode cX12_winner 69 = .ok (.iinc 3 1, 3) := by decide +kernel
theorem dX12_winner_72 : decode cX12_winner 72 = .ok (.goto (-30), 3) := by decide +kernel
theorem dX12_winner_75 : decode cX12_winner 75 = .ok (.iload_n 2, 1) := by decide +kernel
theorem dX12_winner_76 : decode cX12_winner 76 = .ok (.ifCond .eq 5, 3) := by decide +kernel
theorem dX12_winner_79 : decode cX12_winner 79 = .ok (.iload_n 1, 1) := by decide +kernel
theorem dX12_winner_80 : decode cX12_winner 80 = .ok (.ireturn, 1) := by decide +kernel
theorem dX12_winner_81 : decode cX12_winner 81 = .ok (.iinc 1 1, 3) := by decide +kernel
theorem dX12_winner_84 : decode cX12_winner 84 = .ok (.goto (-82), 3) := by decide +kernel
theorem dX12_winner_87 : decode cX12_winner 87 = .ok (.iconst (-1), 1) := by decide +kernel
theorem dX12_winner_88 : decode cX12_winner 88 = .ok (.ireturn, 1) := by decide +kernel
def m_winner_87 (N : Nat) (w : aw_W) : Option (Int × aw_W) :=
  some ((-1), w)
theorem w_m_winner_87 {l : Launch} {K : aw_K} (N d : Nat) (hd : 1 ≤ d) : ∀ (w : aw_W) (y : Int) (v : aw_W), m_winner_87 N w = some (y, v) → aw_AW l K MX12_winner (d + 1) 87 [] [] w (some (.inl y), v) := by
  intro w y v h
  unfold m_winner_87 at h
  refine aw_iconst (pc := 87) dX12_winner_87 ⟨by decide, by decide⟩ ?_
  cases h
  exact aw_iret (pc := 88) rfl dX12_winner_88
def m_winner_81 (N : Nat) (k2 : Int → aw_W → Option (Int × aw_W)) (x1 : Int) (w : aw_W) : Option (Int × aw_W) :=
  k2 (aw_w (x1 + 1)) w
theorem w_m_winner_81 {l : Launch} {K : aw_K} (N d : Nat) (hd : 1 ≤ d) (k2 : Int → aw_W → Option (Int × aw_W)) (hk2 : ∀ (x1 : Int) (w : aw_W) (y : Int) (v : aw_W), k2 x1 w = some (y, v) → aw_AW l K MX12_winner (d + 1) 2 [(0, .inr (.inr 49)), (1, .inl x1)] [] w (some (.inl y), v)) : ∀ (x1 : Int) (w : aw_W) (y : Int) (v : aw_W), m_winner_81 N k2 x1 w = some (y, v) → aw_AW l K MX12_winner (d + 1) 81 [(0, .inr (.inr 49)), (1, .inl x1)] [] w (some (.inl y), v) := by
  intro x1 w y v h
  unfold m_winner_81 at h
  refine aw_iinc (pc := 81) (q := 1) (ls' := [(1, .inl (aw_w (x1 + 1))), (0, .inr (.inr 49))]) dX12_winner_81 rfl (by decide) rfl ?_
  refine aw_goto (pc := 84) (tgt := 2) dX12_winner_84 (by decide) ?_
  exact aw_sel [1, 0] rfl (hk2 _ _ _ _ h)
def m_winner_79 (N : Nat) (x1 : Int) (w : aw_W) : Option (Int × aw_W) :=
  some (x1, w)
theorem w_m_winner_79 {l : Launch} {K : aw_K} (N d : Nat) (hd : 1 ≤ d) : ∀ (x1 : Int) (w : aw_W) (y : Int) (v : aw_W), m_winner_79 N x1 w = some (y, v) → aw_AW l K MX12_winner (d + 1) 79 [(1, .inl x1)] [] w (some (.inl y), v) := by
  intro x1 w y v h
  unfold m_winner_79 at h
  refine aw_iload_n (pc := 79) (q := 0) dX12_winner_79 rfl ?_
  cases h
  exact aw_iret (pc := 80) rfl dX12_winner_80
def m_winner_75 (N : Nat) (k2 : Int → aw_W → Option (Int × aw_W)) (x1 x2 : Int) (w : aw_W) : Option (Int × aw_W) :=
  if x2 = 0 then
    m_winner_81 N k2 x1 w
  else
    m_winner_79 N x1 w
theorem w_m_winner_75 {l : Launch} {K : aw_K} (N d : Nat) (hd : 1 ≤ d) (k2 : Int → aw_W → Option (Int × aw_W)) (hk2 : ∀ (x1 : Int) (w : aw_W) (y : Int) (v : aw_W), k2 x1 w = some (y, v) → aw_AW l K MX12_winner (d + 1) 2 [(0, .inr (.inr 49)), (1, .inl x1)] [] w (some (.inl y), v)) : ∀ (x1 x2 : Int) (w : aw_W) (y : Int) (v : aw_W), m_winner_75 N k2 x1 x2 w = some (y, v) → aw_AW l K MX12_winner (d + 1) 75 [(0, .inr (.inr 49)), (1, .inl x1), (2, .inl x2)] [] w (some (.inl y), v) := by
  intro x1 x2 w y v h
  unfold m_winner_75 at h
  refine aw_iload_n (pc := 75) (q := 2) dX12_winner_75 rfl ?_
  refine aw_if_eq (pc := 76) (tgt := 81) dX12_winner_76 (by decide) (fun hc => ?_) (fun hc => ?_)
  · rw [if_pos hc] at h
    exact aw_sel [0, 1] rfl (w_m_winner_81 N d hd  _ hk2 _ _ _ _ h)
  · rw [if_neg hc] at h
    exact aw_sel [1] rfl (w_m_winner_79 N d hd  _ _ _ _ h)
def m_winner_68 (N : Nat) (k2 : Int → aw_W → Option (Int × aw_W)) (k42 : Int → Int → Int → aw_W → Option (Int × aw_W)) (x1 x3 s0 : Int) (w : aw_W) : Option (Int × aw_W) :=
  k42 x1 s0 (aw_w (x3 + 1)) w
theorem w_m_winner_68 {l : Launch} {K : aw_K} (N d : Nat) (hd : 1 ≤ d) (k2 : Int → aw_W → Option (Int × aw_W)) (hk2 : ∀ (x1 : Int) (w : aw_W) (y : Int) (v : aw_W), k2 x1 w = some (y, v) → aw_AW l K MX12_winner (d + 1) 2 [(0, .inr (.inr 49)), (1, .inl x1)] [] w (some (.inl y), v)) (k42 : Int → Int → Int → aw_W → Option (Int × aw_W)) (hk42 : ∀ (x1 x2 x3 : Int) (w : aw_W) (y : Int) (v : aw_W), k42 x1 x2 x3 w = some (y, v) → aw_AW l K MX12_winner (d + 1) 42 [(0, .inr (.inr 49)), (1, .inl x1), (2, .inl x2), (3, .inl x3)] [] w (some (.inl y), v)) : ∀ (x1 x3 s0 : Int) (w : aw_W) (y : Int) (v : aw_W), m_winner_68 N k2 k42 x1 x3 s0 w = some (y, v) → aw_AW l K MX12_winner (d + 1) 68 [(0, .inr (.inr 49)), (1, .inl x1), (3, .inl x3)] [.inl s0] w (some (.inl y), v) := by
  intro x1 x3 s0 w y v h
  unfold m_winner_68 at h
  refine aw_istore_n (pc := 68) (ls' := [(2, .inl s0), (0, .inr (.inr 49)), (1, .inl x1), (3, .inl x3)]) dX12_winner_68 (by decide) rfl ?_
  refine aw_iinc (pc := 69) (q := 3) (ls' := [(3, .inl (aw_w (x3 + 1))), (2, .inl s0), (0, .inr (.inr 49)), (1, .inl x1)]) dX12_winner_69 rfl (by decide) rfl ?_
  refine aw_goto (pc := 72) (tgt := 42) dX12_winner_72 (by decide) ?_
  exact aw_sel [2, 3, 1, 0] rfl (hk42 _ _ _ _ _ _ h)
def m_winner_67 (N : Nat) (k2 : Int → aw_W → Option (Int × aw_W)) (k42 : Int → Int → Int → aw_W → Option (Int × aw_W)) (x1 x3 : Int) (w : aw_W) : Option (Int × aw_W) :=
  m_winner_68 N k2 k42 x1 x3 0 w
theorem w_m_winner_67 {l : Launch} {K : aw_K} (N d : Nat) (hd : 1 ≤ d) (k2 : Int → aw_W → Option (Int × aw_W)) (hk2 : ∀ (x1 : Int) (w : aw_W) (y : Int) (v : aw_W), k2 x1 w = some (y, v) → aw_AW l K MX12_winner (d + 1) 2 [(0, .inr (.inr 49)), (1, .inl x1)] [] w (some (.inl y), v)) (k42 : Int → Int → Int → aw_W → Option (Int × aw_W)) (hk42 : ∀ (x1 x2 x3 : Int) (w : aw_W) (y : Int) (v : aw_W), k42 x1 x2 x3 w = some (y, v) → aw_AW l K MX12_winner (d + 1) 42 [(0, .inr (.inr 49)), (1, .inl x1), (2, .inl x2), (3, .inl x3)] [] w (some (.inl y), v)) : ∀ (x1 x3 : Int) (w : aw_W) (y : Int) (v : aw_W), m_winner_67 N k2 k42 x1 x3 w = some (y, v) → aw_AW l K MX12_winner (d + 1) 67 [(0, .inr (.inr 49)), (1, .inl x1), (3, .inl x3)] [] w (some (.inl y), v) := by
  intro x1 x3 w y v h
  unfold m_winner_67 at h
  refine aw_iconst (pc := 67) dX12_winner_67 ⟨by decide, by decide⟩ ?_
  exact aw_sel [0, 1, 2] rfl (w_m_winner_68 N d hd  _ hk2 _ hk42 _ _ _ _ _ _ h)
def m_winner_42 (N : Nat) (k2 : Int → aw_W → Option (Int × aw_W)) : Nat → Int → Int → Int → aw_W → Option (Int × aw_W)
  | 0, _, _, _, _ => none
  | n + 1, x1, x2, x3, w =>
    if (w 49 22) ≤ x3 then
      m_winner_75 N k2 x1 x2 w
    else
      if x2 = 0 then
        m_winner_67 N k2 (m_winner_42 N k2 n) x1 x3 w
      else
        aw_b2 (m_areAlike N x3 x1 w) fun r1 w1 =>
          if r1 = 0 then
            m_winner_68 N k2 (m_winner_42 N k2 n) x1 x3 1 w1
          else
            m_winner_67 N k2 (m_winner_42 N k2 n) x1 x3 w1
theorem w_m_winner_42 {l : Launch} {K : aw_K} (N d : Nat) (hd : 1 ≤ d) (k2 : Int → aw_W → Option (Int × aw_W)) (hk2 : ∀ (x1 : Int) (w : aw_W) (y : Int) (v : aw_W), k2 x1 w = some (y, v) → aw_AW l K MX12_winner (d + 1) 2 [(0, .inr (.inr 49)), (1, .inl x1)] [] w (some (.inl y), v)) : ∀ (n : Nat) (x1 x2 x3 : Int) (w : aw_W) (y : Int) (v : aw_W), m_winner_42 N k2 n x1 x2 x3 w = some (y, v) → aw_AW l K MX12_winner (d + 1) 42 [(0, .inr (.inr 49)), (1, .inl x1), (2, .inl x2), (3, .inl x3)] [] w (some (.inl y), v) := by
  intro n
  induction n with
  | zero => intro x1 x2 x3 w y v h; rw [m_winner_42] at h; cases h
  | succ n ih =>
    intro x1 x2 x3 w y v h
    rw [m_winner_42] at h
    refine aw_iload_n (pc := 42) (q := 3) dX12_winner_42 rfl ?_
    refine aw_aload_n (pc := 43) (q := 0) dX12_winner_43 rfl ?_
    refine aw_getf (pc := 44) (v := .inl (w 49 22)) dX12_winner_44 fl_RX12_270 (by decide) rfl rfl rfl ?_
    refine aw_icmp_ge (pc := 47) (tgt := 75) dX12_winner_47 (by decide) (fun hc => ?_) (fun hc => ?_)
    · rw [if_pos hc] at h
      exact aw_sel [0, 1, 2] rfl (w_m_winner_75 N d hd  _ hk2 _ _ _ _ _ h)
    · rw [if_neg hc] at h
      refine aw_iload_n (pc := 50) (q := 2) dX12_winner_50 rfl ?_
      refine aw_if_eq (pc := 51) (tgt := 67) dX12_winner_51 (by decide) (fun hc => ?_) (fun hc => ?_)
      · rw [if_pos hc] at h
        exact aw_sel [0, 1, 3] rfl (w_m_winner_67 N d hd  _ hk2 _ ih _ _ _ _ _ h)
      · rw [if_neg hc] at h
        refine aw_aload_n (pc := 54) (q := 0) dX12_winner_54 rfl ?_
        refine aw_iload_n (pc := 55) (q := 3) dX12_winner_55 rfl ?_
        refine aw_iload_n (pc := 56) (q := 1) dX12_winner_56 rfl ?_
        obtain ⟨r1, w1, h1, h⟩ := aw_b2s h
        refine aw_callV (pc := 57) (as := [.inl x3, .inl x1]) (st := []) (st' := [.inl r1]) dX12_winner_57 cv_RX12_293 (by decide) rfl rfl rfl rfl (Nat.le_of_ble_eq_true rfl) (w_m_areAlike N d (by omega) _ _ _ _ _ h1) rfl ?_
        refine aw_if_ne (pc := 60) (tgt := 67) dX12_winner_60 (by decide) (fun hc => ?_) (fun hc => ?_)
        · rw [if_neg hc] at h
          exact aw_sel [0, 1, 3] rfl (w_m_winner_67 N d hd  _ hk2 _ ih _ _ _ _ _ h)
        · rw [if_pos hc] at h
          refine aw_iconst (pc := 63) dX12_winner_63 ⟨by decide, by decide⟩ ?_
          refine aw_goto (pc := 64) (tgt := 68) dX12_winner_64 (by decide) ?_
          exact aw_sel [0, 1, 3] rfl (w_m_winner_68 N d hd  _ hk2 _ ih _ _ _ _ _ _ h)
def m_winner_2 (N : Nat) : Nat → Int → aw_W → Option (Int × aw_W)
  | 0, _, _ => none
  | n + 1, x1, w =>
    if (w 49 22) ≤ x1 then
      m_winner_87 N w
    else
      if 0 ≤ x1 ∧ x1 < 6 then
        if (w 60 x1.toNat) = 0 then
          aw_b2 (m_aheadOf N x1 w) fun r1 w1 =>
            if r1 = (aw_w ((w1 56 0) - 1)) then
              m_winner_42 N (m_winner_2 N n) N x1 1 0 w1
            else
              m_winner_81 N (m_winner_2 N n) x1 w1
        else
          m_winner_81 N (m_winner_2 N n) x1 w
      else none
theorem w_m_winner_2 {l : Launch} {K : aw_K} (N d : Nat) (hd : 1 ≤ d) : ∀ (n : Nat) (x1 : Int) (w : aw_W) (y : Int) (v : aw_W), m_winner_2 N n x1 w = some (y, v) → aw_AW l K MX12_winner (d + 1) 2 [(0, .inr (.inr 49)), (1, .inl x1)] [] w (some (.inl y), v) := by
  intro n
  induction n with
  | zero => intro x1 w y v h; rw [m_winner_2] at h; cases h
  | succ n ih =>
    intro x1 w y v h
    rw [m_winner_2] at h
    refine aw_iload_n (pc := 2) (q := 1) dX12_winner_2 rfl ?_
    refine aw_aload_n (pc := 3) (q := 0) dX12_winner_3 rfl ?_
    refine aw_getf (pc := 4) (v := .inl (w 49 22)) dX12_winner_4 fl_RX12_270 (by decide) rfl rfl rfl ?_
    refine aw_icmp_ge (pc := 7) (tgt := 87) dX12_winner_7 (by decide) (fun hc => ?_) (fun hc => ?_)
    · rw [if_pos hc] at h
      exact aw_sel [] rfl (w_m_winner_87 N d hd  _ _ _ h)
    · rw [if_neg hc] at h
      refine aw_aload_n (pc := 10) (q := 0) dX12_winner_10 rfl ?_
      refine aw_getf (pc := 11) (v := .inr (.inr 60)) dX12_winner_11 fl_RX12_55 (by decide) rfl rfl rfl ?_
      refine aw_iload_n (pc := 14) (q := 1) dX12_winner_14 rfl ?_
      obtain ⟨hb, h⟩ := aw_cks h
      refine aw_zaldv (pc := 15) (v := w 60 x1.toNat) dX12_winner_15 rfl hb.1 hb.2 rfl ?_
      refine aw_if_ne (pc := 16) (tgt := 81) dX12_winner_16 (by decide) (fun hc => ?_) (fun hc => ?_)
      · rw [if_neg hc] at h
        exact aw_sel [0, 1] rfl (w_m_winner_81 N d hd  _ ih _ _ _ _ h)
      · rw [if_pos hc] at h
        refine aw_aload_n (pc := 19) (q := 0) dX12_winner_19 rfl ?_
        refine aw_iload_n (pc := 20) (q := 1) dX12_winner_20 rfl ?_
        obtain ⟨r1, w1, h1, h⟩ := aw_b2s h
        refine aw_callV (pc := 21) (as := [.inl x1]) (st := []) (st' := [.inl r1]) dX12_winner_21 cv_RX12_290 (by decide) rfl rfl rfl rfl (Nat.le_of_ble_eq_true rfl) (w_m_aheadOf N d (by omega) _ _ _ _ h1) rfl ?_
        refine aw_aload_n (pc := 24) (q := 0) dX12_winner_24 rfl ?_
        refine aw_getf (pc := 25) (v := .inr (.inr 56)) dX12_winner_25 fl_RX12_43 (by decide) rfl rfl rfl ?_
        refine aw_iconst (pc := 28) dX12_winner_28 ⟨by decide, by decide⟩ ?_
        refine aw_ialdv (pc := 29) (v := w1 56 0) dX12_winner_29 rfl (by decide) (by decide) rfl ?_
        refine aw_iconst (pc := 30) dX12_winner_30 ⟨by decide, by decide⟩ ?_
        refine aw_isub (pc := 31) dX12_winner_31 ?_
        refine aw_icmp_eq (pc := 32) (tgt := 38) dX12_winner_32 (by decide) (fun hc => ?_) (fun hc => ?_)
        · rw [if_pos hc] at h
          refine aw_iconst (pc := 38) dX12_winner_38 ⟨by decide, by decide⟩ ?_
          refine aw_istore_n (pc := 39) (ls' := [(2, .inl 1), (0, .inr (.inr 49)), (1, .inl x1)]) dX12_winner_39 (by decide) rfl ?_
          refine aw_iconst (pc := 40) dX12_winner_40 ⟨by decide, by decide⟩ ?_
          refine aw_istore_n (pc := 41) (ls' := [(3, .inl 0), (2, .inl 1), (0, .inr (.inr 49)), (1, .inl x1)]) dX12_winner_41 (by decide) rfl ?_
          exact aw_sel [2, 3, 1, 0] rfl (w_m_winner_42 N d hd  _ ih N _ _ _ _ _ _ h)
        · rw [if_neg hc] at h
          refine aw_goto (pc := 35) (tgt := 81) dX12_winner_35 (by decide) ?_
          exact aw_sel [0, 1] rfl (w_m_winner_81 N d hd  _ ih _ _ _ _ h)
def m_winner (N : Nat) (w : aw_W) : Option (Int × aw_W) :=
  m_winner_2 N N 0 w
theorem w_m_winner_d {l : Launch} {K : aw_K} (N d : Nat) (hd : 1 ≤ d) : ∀ (w : aw_W) (y : Int) (v : aw_W), m_winner N w = some (y, v) → aw_Met l K MX12_winner (d + 1) [.inr (.inr 49)] w (some (.inl y), v) := by
  intro w y v h
  unfold m_winner at h
  refine aw_enter rfl (Nat.le_of_ble_eq_true rfl) ?_
  show aw_AW l K MX12_winner (d + 1) 0 [(0, .inr (.inr 49))] [] w (some (.inl y), v)
  refine aw_iconst (pc := 0) dX12_winner_0 ⟨by decide, by decide⟩ ?_
  refine aw_istore_n (pc := 1) (ls' := [(1, .inl 0), (0, .inr (.inr 49))]) dX12_winner_1 (by decide) rfl ?_
  exact aw_sel [1, 0] rfl (w_m_winner_2 N d hd  N _ _ _ _ h)
theorem w_m_winner {l : Launch} {K : aw_K} (N d : Nat) (hd : 2 ≤ d) : ∀ (w : aw_W) (y : Int) (v : aw_W), m_winner N w = some (y, v) → aw_Met l K MX12_winner (d) [.inr (.inr 49)] w (some (.inl y), v) := by
  obtain ⟨e, rfl⟩ : ∃ e, d = e + 1 := ⟨d - 1, by omega⟩
  exact w_m_winner_d N e (by omega)
theorem dX12_isBefore_0 : decode cX12_isBefore 0 = .ok (.aload_n 0, 1) := by decide +kernel
theorem dX12_isBefore_1 : decode cX12_isBefore 1 = .ok (.getfield 72, 3) := by decide +kernel
theorem dX12_isBefore_4 : decode cX12_isBefore 4 = .ok (.iload_n 1, 1) := by decide +kernel
theorem dX12_isBefore_5 : decode cX12_isBefore 5 = .ok (.iaload, 1) := by decide +kernel
theorem dX12_isBefore_6 : decode cX12_isBefore 6 = .ok (.aload_n 0, 1) := by decide +kernel
theorem dX12_isBefore_7 : decode cX12_isBefore 7 = .ok (.getfield 72, 3) := by decide +kernel
theorem dX12_isBefore_10 : decode cX12_isBefore 10 = .ok (.iload_n 2, 1) := by decide +kernel
theorem dX12_isBefore_11 : decode cX12_isBefore 11 = .ok (.iaload, 1) := by decide +kernel
theorem dX12_isBefore_12 : decode cX12_isBefore 12 = .ok (.if_icmp .gt 23, 3) := by decide +kernel
theorem dX12_isBefore_15 : decode cX12_isBefore 15 = .ok (.aload_n 0, 1) := by decide +kernel
theorem dX12_isBefore_16 : decode cX12_isBefore 16 = .ok (.getfield 72, 3) := by decide +kernel
theorem dX12_isBefore_19 : decode cX12_isBefore 19 = .ok (.iload_n 1, 1) := by decide +kernel
theorem dX12_isBefore_20 : decode cX12_isBefore 20 = .ok (.iaload, 1) := by decide +kernel
theorem dX12_isBefore_21 : decode cX12_isBefore 21 = .ok (.aload_n 0, 1) := by decide +kernel
theorem dX12_isBefore_22 : decode cX12_isBefore 22 = .ok (.getfield 72, 3) := by decide +kernel
theorem dX12_isBefore_25 : decode cX12_isBefore 25 = .ok (.iload_n 2, 1) := by decide +kernel
theorem dX12_isBefore_26 : decode cX12_isBefore 26 = .ok (.iaload, 1) := by decide +kernel
theorem dX12_isBefore_27 : decode cX12_isBefore 27 = .ok (.if_icmp .ne 12, 3) := by decide +kernel
theorem dX12_isBefore_30 : decode cX12_isBefore 30 = .ok (.iload_n 1, 1) := by decide +kernel
theorem dX12_isBefore_31 : decode cX12_isBefore 31 = .ok (.iload_n 2, 1) := by decide +kernel
theorem dX12_isBefore_32 : decode cX12_isBefore 32 = .ok (.if_icmp .ge 7, 3) := by decide +kernel
theorem dX12_isBefore_35 : decode cX12_isBefore 35 = .ok (.iconst 1, 1) := by decide +kernel
theorem dX12_isBefore_36 : decode cX12_isBefore 36 = .ok (.goto 4, 3) := by decide +kernel
theorem dX12_isBefore_39 : decode cX12_isBefore 39 = .ok (.iconst 0, 1) := by decide +kernel
theorem dX12_isBefore_40 : decode cX12_isBefore 40 = .ok (.ireturn, 1) := by decide +kernel
def m_isBefore_40 (N : Nat) (s0 : Int) (w : aw_W) : Option (Int × aw_W) :=
  if s0 = 0 ∨ s0 = 1 then
    some (s0, w)
  else none
theorem w_m_isBefore_40 {l : Launch} {K : aw_K} (N d : Nat) : ∀ (s0 : Int) (w : aw_W) (y : Int) (v : aw_W), m_isBefore_40 N s0 w = some (y, v) → aw_AW l K MX12_isBefore (d) 40 [] [.inl s0] w (some (.inl y), v) := by
  intro s0 w y v h
  unfold m_isBefore_40 at h
  obtain ⟨hz, h⟩ := aw_cks h
  cases h
  exact aw_zret (pc := 40) rfl hz dX12_isBefore_40
def m_isBefore_35 (N : Nat) (w : aw_W) : Option (Int × aw_W) :=
  m_isBefore_40 N 1 w
theorem w_m_isBefore_35 {l : Launch} {K : aw_K} (N d : Nat) : ∀ (w : aw_W) (y : Int) (v : aw_W), m_isBefore_35 N w = some (y, v) → aw_AW l K MX12_isBefore (d) 35 [] [] w (some (.inl y), v) := by
  intro w y v h
  unfold m_isBefore_35 at h
  refine aw_iconst (pc := 35) dX12_isBefore_35 ⟨by decide, by decide⟩ ?_
  refine aw_goto (pc := 36) (tgt := 40) dX12_isBefore_36 (by decide) ?_
  exact aw_sel [] rfl (w_m_isBefore_40 N d  _ _ _ _ h)
def m_isBefore_39 (N : Nat) (w : aw_W) : Option (Int × aw_W) :=
  m_isBefore_40 N 0 w
theorem w_m_isBefore_39 {l : Launch} {K : aw_K} (N d : Nat) : ∀ (w : aw_W) (y : Int) (v : aw_W), m_isBefore_39 N w = some (y, v) → aw_AW l K MX12_isBefore (d) 39 [] [] w (some (.inl y), v) := by
  intro w y v h
  unfold m_isBefore_39 at h
  refine aw_iconst (pc := 39) dX12_isBefore_39 ⟨by decide, by decide⟩ ?_
  exact aw_sel [] rfl (w_m_isBefore_40 N d  _ _ _ _ h)
def m_isBefore (N : Nat) (x1 x2 : Int) (w : aw_W) : Option (Int × aw_W) :=
  if 0 ≤ x1 ∧ x1 < 6 then
    if 0 ≤ x2 ∧ x2 < 6 then
      if (w 64 x2.toNat) < (w 64 x1.toNat) then
        m_isBefore_35 N w
      else
        if 0 ≤ x1 ∧ x1 < 6 then
          if 0 ≤ x2 ∧ x2 < 6 then
            if (w 64 x1.toNat) = (w 64 x2.toNat) then
              if x2 ≤ x1 then
                m_isBefore_39 N w
              else
                m_isBefore_35 N w
            else
              m_isBefore_39 N w
          else none
        else none
    else none
  else none
theorem w_m_isBefore {l : Launch} {K : aw_K} (N d : Nat) (hd : 0 ≤ d) : ∀ (x1 x2 : Int) (w : aw_W) (y : Int) (v : aw_W), m_isBefore N x1 x2 w = some (y, v) → aw_Met l K MX12_isBefore (d) [.inr (.inr 49), .inl x1, .inl x2] w (some (.inl y), v) := by
  intro x1 x2 w y v h
  unfold m_isBefore at h
  refine aw_enter rfl (Nat.le_of_ble_eq_true rfl) ?_
  show aw_AW l K MX12_isBefore (d) 0 [(0, .inr (.inr 49)), (1, .inl x1), (2, .inl x2)] [] w (some (.inl y), v)
  refine aw_aload_n (pc := 0) (q := 0) dX12_isBefore_0 rfl ?_
  refine aw_getf (pc := 1) (v := .inr (.inr 64)) dX12_isBefore_1 fl_RX12_72 (by decide) rfl rfl rfl ?_
  refine aw_iload_n (pc := 4) (q := 1) dX12_isBefore_4 rfl ?_
  obtain ⟨hb, h⟩ := aw_cks h
  refine aw_ialdv (pc := 5) (v := w 64 x1.toNat) dX12_isBefore_5 rfl hb.1 hb.2 rfl ?_
  refine aw_aload_n (pc := 6) (q := 0) dX12_isBefore_6 rfl ?_
  refine aw_getf (pc := 7) (v := .inr (.inr 64)) dX12_isBefore_7 fl_RX12_72 (by decide) rfl rfl rfl ?_
  refine aw_iload_n (pc := 10) (q := 2) dX12_isBefore_10 rfl ?_
  obtain ⟨hb, h⟩ := aw_cks h
  refine aw_ialdv (pc := 11) (v := w 64 x2.toNat) dX12_isBefore_11 rfl hb.1 hb.2 rfl ?_
  refine aw_icmp_gt (pc := 12) (tgt := 35) dX12_isBefore_12 (by decide) (fun hc => ?_) (fun hc => ?_)
  · rw [if_pos hc] at h
    exact aw_sel [] rfl (w_m_isBefore_35 N d  _ _ _ h)
  · rw [if_neg hc] at h
    refine aw_aload_n (pc := 15) (q := 0) dX12_isBefore_15 rfl ?_
    refine aw_getf (pc := 16) (v := .inr (.inr 64)) dX12_isBefore_16 fl_RX12_72 (by decide) rfl rfl rfl ?_
    refine aw_iload_n (pc := 19) (q := 1) dX12_isBefore_19 rfl ?_
    obtain ⟨hb, h⟩ := aw_cks h
    refine aw_ialdv (pc := 20) (v := w 64 x1.toNat) dX12_isBefore_20 rfl hb.1 hb.2 rfl ?_
    refine aw_aload_n (pc := 21) (q := 0) dX12_isBefore_21 rfl ?_
    refine aw_getf (pc := 22) (v := .inr (.inr 64)) dX12_isBefore_22 fl_RX12_72 (by decide) rfl rfl rfl ?_
    refine aw_iload_n (pc := 25) (q := 2) dX12_isBefore_25 rfl ?_
    obtain ⟨hb, h⟩ := aw_cks h
    refine aw_ialdv (pc := 26) (v := w 64 x2.toNat) dX12_isBefore_26 rfl hb.1 hb.2 rfl ?_
    refine aw_icmp_ne (pc := 27) (tgt := 39) dX12_isBefore_27 (by decide) (fun hc => ?_) (fun hc => ?_)
    · rw [if_neg hc] at h
      exact aw_sel [] rfl (w_m_isBefore_39 N d  _ _ _ h)
    · rw [if_pos hc] at h
      refine aw_iload_n (pc := 30) (q := 1) dX12_isBefore_30 rfl ?_
      refine aw_iload_n (pc := 31) (q := 2) dX12_isBefore_31 rfl ?_
      refine aw_icmp_ge (pc := 32) (tgt := 39) dX12_isBefore_32 (by decide) (fun hc => ?_) (fun hc => ?_)
      · rw [if_pos hc] at h
        exact aw_sel [] rfl (w_m_isBefore_39 N d  _ _ _ h)
      · rw [if_neg hc] at h
        exact aw_sel [] rfl (w_m_isBefore_35 N d  _ _ _ h)
theorem dX12_paidBy_0 : decode cX12_paidBy 0 = .ok (.aload_n 0, 1) := by decide +kernel
theorem dX12_paidBy_1 : decode cX12_paidBy 1 = .ok (.getfield 43, 3) := by decide +kernel
theorem dX12_paidBy_4 : decode cX12_paidBy 4 = .ok (.iconst 2, 1) := by decide +kernel
theorem dX12_paidBy_5 : decode cX12_paidBy 5 = .ok (.iaload, 1) := by decide +kernel
theorem dX12_paidBy_6 : decode cX12_paidBy 6 = .ok (.ifCond .ne 10, 3) := by decide +kernel
theorem dX12_paidBy_9 : decode cX12_paidBy 9 = .ok (.aload_n 0, 1) := by decide +kernel
theorem dX12_paidBy_10 : decode cX12_paidBy 10 = .ok (.getfield 72, 3) := by decide +kernel
theorem dX12_paidBy_13 : decode cX12_paidBy 13 = .ok (.iload_n 1, 1) := by decide +kernel
theorem dX12_paidBy_14 : decode cX12_paidBy 14 = .ok (.iaload, 1) := by decide +kernel
theorem dX12_paidBy_15 : decode cX12_paidBy 15 = .ok (.ireturn, 1) := by decide +kernel
theorem dX12_paidBy_16 : decode cX12_paidBy 16 = .ok (.iconst (-1), 1) := by decide +kernel
theorem dX12_paidBy_17 : decode cX12_paidBy 17 = .ok (.istore_n 2, 1) := by decide +kernel
theorem dX12_paidBy_18 : decode cX12_paidBy 18 = .ok (.iconst 0, 1) := by decide +kernel
theorem dX12_paidBy_19 : decode cX12_paidBy 19 = .ok (.istore_n 3, 1) := by decide +kernel
theorem dX12_paidBy_20 : decode cX12_paidBy 20 = .ok (.iload_n 3, 1) := by decide +kernel
theorem dX12_paidBy_21 : decode cX12_paidBy 21 = .ok (.aload_n 0, 1) := by decide +kernel
theorem dX12_paidBy_22 : decode cX12_paidBy 22 = .ok (.getfield 270, 3) := by decide +kernel
theorem dX12_paidBy_25 : decode cX12_paidBy 25 = .ok (.if_icmp .ge 72, 3) := by decide +kernel
theorem dX12_paidBy_28 : decode cX12_paidBy 28 = .ok (.iload_n 3, 1) := by decide +kernel
theorem dX12_paidBy_29 : decode cX12_paidBy 29 = .ok (.iload_n 1, 1) := by decide +kernel
theorem dX12_paidBy_30 : decode cX12_paidBy 30 = .ok (.if_icmp .eq 61, 3) := by decide +kernel
theorem dX12_paidBy_33 : decode cX12_paidBy 33 = .ok (.aload_n 0, 1) := by decide +kernel
theorem dX12_paidBy_34 : decode cX12_paidBy 34 = .ok (.iload_n 3, 1) := by decide +kernel
theorem dX12_paidBy_35 : decode cX12_paidBy 35 = .ok (.iload_n 1, 1) := by decide +kernel
theorem dX12_paidBy_36 : decode cX12_paidBy 36 = .ok (.invokevirtual 323, 3) := by decide +kernel
theorem dX12_paidBy_39 : decode cX12_paidBy 39 = .ok (.aload_n 0, 1) := by decide +kernel
theorem dX12_paidBy_40 : decode cX12_paidBy 40 = .ok (.getfield 43, 3) := by decide +kernel
theorem dX12_paidBy_43 : decode cX12_paidBy 43 = .ok (.iconst 2, 1) := by decide +kernel
theorem dX12_paidBy_44 : decode cX12_paidBy 44 = .ok (.iaload, 1) := by decide +kernel
theorem dX12_paidBy_45 : decode cX12_paidBy 45 = .ok (.iconst 1, 1) := by decide +kernel
theorem dX12_paidBy_46 : decode cX12_paidBy 46 = .ok (.if_icmp .ne 7, 3) := by decide +kernel
theorem dX12_paidBy_49 : decode cX12_paidBy 49 = .ok (.iconst 1, 1) := by decide +kernel
theorem dX12_paidBy_50 : decode cX12_paidBy 50 = .ok (.goto 4, 3) := by decide +kernel
theorem dX12_paidBy_53 : decode cX12_paidBy 53 = .ok (.iconst 0, 1) := by decide +kernel
theorem dX12_paidBy_54 : decode cX12_paidBy 54 = .ok (.if_icmp .eq 6, 3) := by decide +kernel
theorem dX12_paidBy_57 : decode cX12_paidBy 57 = .ok (.goto 34, 3) := by decide +kernel
theorem dX12_paidBy_60 : decode cX12_paidBy 60 = .ok (.iload_n 2, 1) := by decide +kernel
theorem dX12_paidBy_61 : decode cX12_paidBy 61 = .ok (.iconst (-1), 1) := by decide +kernel
theorem dX12_paidBy_62 : decode cX12_paidBy 62 = .ok (.if_icmp .eq 27, 3) := by decide +kernel
theorem dX12_paidBy_65 : decode cX12_paidBy 65 = .ok (.aload_n 0, 1) := by decide +kernel
theorem dX12_paidBy_66 : decode cX12_paidBy 66 = .ok (.iload_n 3, 1) := by decide +kernel
theorem dX12_paidBy_67 : decode cX12_paidBy 67 = .ok (.iload_n 2, 1) := by decide +kernel
theorem dX12_paidBy_68 : decode cX12_paidBy 68 = .ok (.invokevirtual 323, 3) := by decide +kernel
theorem dX12_paidBy_71 : decode cX12_paidBy 71 = .ok (.aload_n 0, 1) := by decide +kernel
theorem dX12_paidBy_72 : decode cX12_paidBy 72 = .ok (.getfield 43, 3) := by decide +kernel
theorem dX12_paidBy_75 : decode cX12_paidBy 75 = .ok (.iconst 2, 1) := by decide +kernel
theorem dX12_paidBy_76 : decode cX12_paidBy 76 = .ok (.iaload, 1) := by decide +kernel
theorem dX12_paidBy_77 : decode cX12_paidBy 77 = .ok (.iconst 1, 1) := by decide +kernel
theorem dX12_paidBy_78 : decode cX12_paidBy 78 = .ok (.if_icmp .ne 7, 3) := by decide +kernel
theorem dX12_paidBy_81 : decode cX12_paidBy 81 = .ok (.iconst 1, 1) := by decide +kernel
theorem dX12_paidBy_82 : decode cX12_paidBy 82 = .ok (.goto 4, 3) := by decide +kernel
theorem dX12_paidBy_85 : decode cX12_paidBy 85 = .ok (.iconst 0, 1) := by decide +kernel
theorem dX12_paidBy_86 : decode cX12_paidBy 86 = .ok (.if_icmp .eq 5, 3) := by decide +kernel
theorem dX12_paidBy_89 : decode cX12_paidBy 89 = .ok (.iload_n 3, 1) := by decide +kernel
theorem dX12_paidBy_90 : decode cX12_paidBy 90 = .ok (.istore_n 2, 1) := by decide +kernel
theorem dX12_paidBy_91 : decode cX12_paidBy 91 = .ok (.iinc 3 1, 3) := by decide +kernel
theorem dX12_paidBy_94 : decode cX12_paidBy 94 = .ok (.goto (-74), 3) := by decide +kernel
theorem dX12_paidBy_97 : decode cX12_paidBy 97 = .ok (.iload_n 2, 1) := by decide +kernel
theorem dX12_paidBy_98 : decode cX12_paidBy 98 = .ok (.iconst (-1), 1) := by decide +kernel
theorem dX12_paidBy_99 : decode cX12_paidBy 99 = .ok (.if_icmp .eq 12, 3) := by decide +kernel
theorem dX12_paidBy_102 : decode cX12_paidBy 102 = .ok (.aload_n 0, 1) := by decide +kernel
theorem dX12_paidBy_103 : decode cX12_paidBy 103 = .ok (.getfield 72, 3) := by decide +kernel
theorem dX12_paidBy_106 : decode cX12_paidBy 106 = .ok (.iload_n 2, 1) := by decide +kernel
theorem dX12_paidBy_107 : decode cX12_paidBy 107 = .ok (.iaload, 1) := by decide +kernel
theorem dX12_paidBy_108 : decode cX12_paidBy 108 = .ok (.goto 23, 3) := by decide +kernel
theorem dX12_paidBy_111 : decode cX12_paidBy 111 = .ok (.aload_n 0, 1) := by decide +kernel
theorem dX12_paidBy_112 : decode cX12_paidBy 112 = .ok (.getfield 43, 3) := by decide +kernel
theorem dX12_paidBy_115 : decode cX12_paidBy 115 = .ok (.iconst 2, 1) := by decide +kernel
theorem dX12_paidBy_116 : decode cX12_paidBy 116 = .ok (.iaload, 1) := by decide +kernel
theorem dX12_paidBy_117 : decode cX12_paidBy 117 = .ok (.iconst 1, 1) := by decide +kernel
theorem dX12_paidBy_118 : decode cX12_paidBy 118 = .ok (.if_icmp .ne 12, 3) := by decide +kernel
theorem dX12_paidBy_121 : decode cX12_paidBy 121 = .ok (.aload_n 0, 1) := by decide +kernel
theorem dX12_paidBy_122 : decode cX12_paidBy 122 = .ok (.getfield 72, 3) := by decide +kernel
theorem dX12_paidBy_125 : decode cX12_paidBy 125 = .ok (.iload_n 1, 1) := by decide +kernel
theorem dX12_paidBy_126 : decode cX12_paidBy 126 = .ok (.iaload, 1) := by decide +kernel
theorem dX12_paidBy_127 : decode cX12_paidBy 127 = .ok (.goto 4, 3) := by decide +kernel
theorem dX12_paidBy_130 : decode cX12_paidBy 130 = .ok (.iconst 0, 1) := by decide +kernel
theorem dX12_paidBy_131 : decode cX12_paidBy 131 = .ok (.ireturn, 1) := by decide +kernel
def m_paidBy_131 (N : Nat) (s0 : Int) (w : aw_W) : Option (Int × aw_W) :=
  some (s0, w)
theorem w_m_paidBy_131 {l : Launch} {K : aw_K} (N d : Nat) (hd : 0 ≤ d) : ∀ (s0 : Int) (w : aw_W) (y : Int) (v : aw_W), m_paidBy_131 N s0 w = some (y, v) → aw_AW l K MX12_paidBy (d + 1) 131 [] [.inl s0] w (some (.inl y), v) := by
  intro s0 w y v h
  unfold m_paidBy_131 at h
  cases h
  exact aw_iret (pc := 131) rfl dX12_paidBy_131
def m_paidBy_97 (N : Nat) (x1 x2 : Int) (w : aw_W) : Option (Int × aw_W) :=
  if x2 = (-1) then
    if (w 56 2) = 1 then
      if 0 ≤ x1 ∧ x1 < 6 then
        m_paidBy_131 N (w 64 x1.toNat) w
      else none
    else
      m_paidBy_131 N 0 w
  else
    if 0 ≤ x2 ∧ x2 < 6 then
      m_paidBy_131 N (w 64 x2.toNat) w
    else none
theorem w_m_paidBy_97 {l : Launch} {K : aw_K} (N d : Nat) (hd : 0 ≤ d) : ∀ (x1 x2 : Int) (w : aw_W) (y : Int) (v : aw_W), m_paidBy_97 N x1 x2 w = some (y, v) → aw_AW l K MX12_paidBy (d + 1) 97 [(0, .inr (.inr 49)), (1, .inl x1), (2, .inl x2)] [] w (some (.inl y), v) := by
  intro x1 x2 w y v h
  unfold m_paidBy_97 at h
  refine aw_iload_n (pc := 97) (q := 2) dX12_paidBy_97 rfl ?_
  refine aw_iconst (pc := 98) dX12_paidBy_98 ⟨by decide, by decide⟩ ?_
  refine aw_icmp_eq (pc := 99) (tgt := 111) dX12_paidBy_99 (by decide) (fun hc => ?_) (fun hc => ?_)
  · rw [if_pos hc] at h
    refine aw_aload_n (pc := 111) (q := 0) dX12_paidBy_111 rfl ?_
    refine aw_getf (pc := 112) (v := .inr (.inr 56)) dX12_paidBy_112 fl_RX12_43 (by decide) rfl rfl rfl ?_
    refine aw_iconst (pc := 115) dX12_paidBy_115 ⟨by decide, by decide⟩ ?_
    refine aw_ialdv (pc := 116) (v := w 56 2) dX12_paidBy_116 rfl (by decide) (by decide) rfl ?_
    refine aw_iconst (pc := 117) dX12_paidBy_117 ⟨by decide, by decide⟩ ?_
    refine aw_icmp_ne (pc := 118) (tgt := 130) dX12_paidBy_118 (by decide) (fun hc => ?_) (fun hc => ?_)
    · rw [if_neg hc] at h
      refine aw_iconst (pc := 130) dX12_paidBy_130 ⟨by decide, by decide⟩ ?_
      exact aw_sel [] rfl (w_m_paidBy_131 N d hd  _ _ _ _ h)
    · rw [if_pos hc] at h
      refine aw_aload_n (pc := 121) (q := 0) dX12_paidBy_121 rfl ?_
      refine aw_getf (pc := 122) (v := .inr (.inr 64)) dX12_paidBy_122 fl_RX12_72 (by decide) rfl rfl rfl ?_
      refine aw_iload_n (pc := 125) (q := 1) dX12_paidBy_125 rfl ?_
      obtain ⟨hb, h⟩ := aw_cks h
      refine aw_ialdv (pc := 126) (v := w 64 x1.toNat) dX12_paidBy_126 rfl hb.1 hb.2 rfl ?_
      refine aw_goto (pc := 127) (tgt := 131) dX12_paidBy_127 (by decide) ?_
      exact aw_sel [] rfl (w_m_paidBy_131 N d hd  _ _ _ _ h)
  · rw [if_neg hc] at h
    refine aw_aload_n (pc := 102) (q := 0) dX12_paidBy_102 rfl ?_
    refine aw_getf (pc := 103) (v := .inr (.inr 64)) dX12_paidBy_103 fl_RX12_72 (by decide) rfl rfl rfl ?_
    refine aw_iload_n (pc := 106) (q := 2) dX12_paidBy_106 rfl ?_
    obtain ⟨hb, h⟩ := aw_cks h
    refine aw_ialdv (pc := 107) (v := w 64 x2.toNat) dX12_paidBy_107 rfl hb.1 hb.2 rfl ?_
    refine aw_goto (pc := 108) (tgt := 131) dX12_paidBy_108 (by decide) ?_
    exact aw_sel [] rfl (w_m_paidBy_131 N d hd  _ _ _ _ h)
def m_paidBy_91 (N : Nat) (k20 : Int → Int → Int → aw_W → Option (Int × aw_W)) (x1 x2 x3 : Int) (w : aw_W) : Option (Int × aw_W) :=
  k20 x1 x2 (aw_w (x3 + 1)) w
theorem w_m_paidBy_91 {l : Launch} {K : aw_K} (N d : Nat) (hd : 0 ≤ d) (k20 : Int → Int → Int → aw_W → Option (Int × aw_W)) (hk20 : ∀ (x1 x2 x3 : Int) (w : aw_W) (y : Int) (v : aw_W), k20 x1 x2 x3 w = some (y, v) → aw_AW l K MX12_paidBy (d + 1) 20 [(0, .inr (.inr 49)), (1, .inl x1), (2, .inl x2), (3, .inl x3)] [] w (some (.inl y), v)) : ∀ (x1 x2 x3 : Int) (w : aw_W) (y : Int) (v : aw_W), m_paidBy_91 N k20 x1 x2 x3 w = some (y, v) → aw_AW l K MX12_paidBy (d + 1) 91 [(0, .inr (.inr 49)), (1, .inl x1), (2, .inl x2), (3, .inl x3)] [] w (some (.inl y), v) := by
  intro x1 x2 x3 w y v h
  unfold m_paidBy_91 at h
  refine aw_iinc (pc := 91) (q := 3) (ls' := [(3, .inl (aw_w (x3 + 1))), (0, .inr (.inr 49)), (1, .inl x1), (2, .inl x2)]) dX12_paidBy_91 rfl (by decide) rfl ?_
  refine aw_goto (pc := 94) (tgt := 20) dX12_paidBy_94 (by decide) ?_
  exact aw_sel [1, 2, 3, 0] rfl (hk20 _ _ _ _ _ _ h)
def m_paidBy_89 (N : Nat) (k20 : Int → Int → Int → aw_W → Option (Int × aw_W)) (x1 x3 : Int) (w : aw_W) : Option (Int × aw_W) :=
  m_paidBy_91 N k20 x1 x3 x3 w
theorem w_m_paidBy_89 {l : Launch} {K : aw_K} (N d : Nat) (hd : 0 ≤ d) (k20 : Int → Int → Int → aw_W → Option (Int × aw_W)) (hk20 : ∀ (x1 x2 x3 : Int) (w : aw_W) (y : Int) (v : aw_W), k20 x1 x2 x3 w = some (y, v) → aw_AW l K MX12_paidBy (d + 1) 20 [(0, .inr (.inr 49)), (1, .inl x1), (2, .inl x2), (3, .inl x3)] [] w (some (.inl y), v)) : ∀ (x1 x3 : Int) (w : aw_W) (y : Int) (v : aw_W), m_paidBy_89 N k20 x1 x3 w = some (y, v) → aw_AW l K MX12_paidBy (d + 1) 89 [(0, .inr (.inr 49)), (1, .inl x1), (3, .inl x3)] [] w (some (.inl y), v) := by
  intro x1 x3 w y v h
  unfold m_paidBy_89 at h
  refine aw_iload_n (pc := 89) (q := 2) dX12_paidBy_89 rfl ?_
  refine aw_istore_n (pc := 90) (ls' := [(2, .inl x3), (0, .inr (.inr 49)), (1, .inl x1), (3, .inl x3)]) dX12_paidBy_90 (by decide) rfl ?_
  exact aw_sel [1, 2, 0, 3] rfl (w_m_paidBy_91 N d hd  _ hk20 _ _ _ _ _ _ h)
def m_paidBy_86 (N : Nat) (k20 : Int → Int → Int → aw_W → Option (Int × aw_W)) (x1 x2 x3 s0 s1 : Int) (w : aw_W) : Option (Int × aw_W) :=
  if s1 = s0 then
    m_paidBy_91 N k20 x1 x2 x3 w
  else
    m_paidBy_89 N k20 x1 x3 w
theorem w_m_paidBy_86 {l : Launch} {K : aw_K} (N d : Nat) (hd : 0 ≤ d) (k20 : Int → Int → Int → aw_W → Option (Int × aw_W)) (hk20 : ∀ (x1 x2 x3 : Int) (w : aw_W) (y : Int) (v : aw_W), k20 x1 x2 x3 w = some (y, v) → aw_AW l K MX12_paidBy (d + 1) 20 [(0, .inr (.inr 49)), (1, .inl x1), (2, .inl x2), (3, .inl x3)] [] w (some (.inl y), v)) : ∀ (x1 x2 x3 s0 s1 : Int) (w : aw_W) (y : Int) (v : aw_W), m_paidBy_86 N k20 x1 x2 x3 s0 s1 w = some (y, v) → aw_AW l K MX12_paidBy (d + 1) 86 [(0, .inr (.inr 49)), (1, .inl x1), (2, .inl x2), (3, .inl x3)] [.inl s0, .inl s1] w (some (.inl y), v) := by
  intro x1 x2 x3 s0 s1 w y v h
  unfold m_paidBy_86 at h
  refine aw_icmp_eq (pc := 86) (tgt := 91) dX12_paidBy_86 (by decide) (fun hc => ?_) (fun hc => ?_)
  · rw [if_pos hc] at h
    exact aw_sel [0, 1, 2, 3] rfl (w_m_paidBy_91 N d hd  _ hk20 _ _ _ _ _ _ h)
  · rw [if_neg hc] at h
    exact aw_sel [0, 1, 3] rfl (w_m_paidBy_89 N d hd  _ hk20 _ _ _ _ _ h)
def m_paidBy_54 (N : Nat) (k20 : Int → Int → Int → aw_W → Option (Int × aw_W)) (x1 x2 x3 s0 s1 : Int) (w : aw_W) : Option (Int × aw_W) :=
  if s1 = s0 then
    if x2 = (-1) then
      m_paidBy_89 N k20 x1 x3 w
    else
      aw_b2 (m_isBefore N x3 x2 w) fun r1 w1 =>
        if (w1 56 2) = 1 then
          m_paidBy_86 N k20 x1 x2 x3 1 r1 w1
        else
          m_paidBy_86 N k20 x1 x2 x3 0 r1 w1
  else
    m_paidBy_91 N k20 x1 x2 x3 w
theorem w_m_paidBy_54 {l : Launch} {K : aw_K} (N d : Nat) (hd : 0 ≤ d) (k20 : Int → Int → Int → aw_W → Option (Int × aw_W)) (hk20 : ∀ (x1 x2 x3 : Int) (w : aw_W) (y : Int) (v : aw_W), k20 x1 x2 x3 w = some (y, v) → aw_AW l K MX12_paidBy (d + 1) 20 [(0, .inr (.inr 49)), (1, .inl x1), (2, .inl x2), (3, .inl x3)] [] w (some (.inl y), v)) : ∀ (x1 x2 x3 s0 s1 : Int) (w : aw_W) (y : Int) (v : aw_W), m_paidBy_54 N k20 x1 x2 x3 s0 s1 w = some (y, v) → aw_AW l K MX12_paidBy (d + 1) 54 [(0, .inr (.inr 49)), (1, .inl x1), (2, .inl x2), (3, .inl x3)] [.inl s0, .inl s1] w (some (.inl y), v) := by
  intro x1 x2 x3 s0 s1 w y v h
  unfold m_paidBy_54 at h
  refine aw_icmp_eq (pc := 54) (tgt := 60) dX12_paidBy_54 (by decide) (fun hc => ?_) (fun hc => ?_)
  · rw [if_pos hc] at h
    refine aw_iload_n (pc := 60) (q := 2) dX12_paidBy_60 rfl ?_
    refine aw_iconst (pc := 61) dX12_paidBy_61 ⟨by decide, by decide⟩ ?_
    refine aw_icmp_eq (pc := 62) (tgt := 89) dX12_paidBy_62 (by decide) (fun hc => ?_) (fun hc => ?_)
    · rw [if_pos hc] at h
      exact aw_sel [0, 1, 3] rfl (w_m_paidBy_89 N d hd  _ hk20 _ _ _ _ _ h)
    · rw [if_neg hc] at h
      refine aw_aload_n (pc := 65) (q := 0) dX12_paidBy_65 rfl ?_
      refine aw_iload_n (pc := 66) (q := 3) dX12_paidBy_66 rfl ?_
      refine aw_iload_n (pc := 67) (q := 2) dX12_paidBy_67 rfl ?_
      obtain ⟨r1, w1, h1, h⟩ := aw_b2s h
      refine aw_callV (pc := 68) (as := [.inl x3, .inl x2]) (st := []) (st' := [.inl r1]) dX12_paidBy_68 cv_RX12_323 (by decide) rfl rfl rfl rfl (Nat.le_of_ble_eq_true rfl) (w_m_isBefore N d (by omega) _ _ _ _ _ h1) rfl ?_
      refine aw_aload_n (pc := 71) (q := 0) dX12_paidBy_71 rfl ?_
      refine aw_getf (pc := 72) (v := .inr (.inr 56)) dX12_paidBy_72 fl_RX12_43 (by decide) rfl rfl rfl ?_
      refine aw_iconst (pc := 75) dX12_paidBy_75 ⟨by decide, by decide⟩ ?_
      refine aw_ialdv (pc := 76) (v := w1 56 2) dX12_paidBy_76 rfl (by decide) (by decide) rfl ?_
      refine aw_iconst (pc := 77) dX12_paidBy_77 ⟨by decide, by decide⟩ ?_
      refine aw_icmp_ne (pc := 78) (tgt := 85) dX12_paidBy_78 (by decide) (fun hc => ?_) (fun hc => ?_)
      · rw [if_neg hc] at h
        refine aw_iconst (pc := 85) dX12_paidBy_85 ⟨by decide, by decide⟩ ?_
        exact aw_sel [0, 1, 2, 3] rfl (w_m_paidBy_86 N d hd  _ hk20 _ _ _ _ _ _ _ _ h)
      · rw [if_pos hc] at h
        refine aw_iconst (pc := 81) dX12_paidBy_81 ⟨by decide, by decide⟩ ?_
        refine aw_goto (pc := 82) (tgt := 86) dX12_paidBy_82 (by decide) ?_
        exact aw_sel [0, 1, 2, 3] rfl (w_m_paidBy_86 N d hd  _ hk20 _ _ _ _ _ _ _ _ h)
  · rw [if_neg hc] at h
    refine aw_goto (pc := 57) (tgt := 91) dX12_paidBy_57 (by decide) ?_
    exact aw_sel [0, 1, 2, 3] rfl (w_m_paidBy_91 N d hd  _ hk20 _ _ _ _ _ _ h)
def m_paidBy_20 (N : Nat) : Nat → Int → Int → Int → aw_W → Option (Int × aw_W)
  | 0, _, _, _, _ => none
  | n + 1, x1, x2, x3, w =>
    if (w 49 22) ≤ x3 then
      m_paidBy_97 N x1 x2 w
    else
      if x3 = x1 then
        m_paidBy_91 N (m_paidBy_20 N n) x1 x2 x3 w
      else
        aw_b2 (m_isBefore N x3 x1 w) fun r1 w1 =>
          if (w1 56 2) = 1 then
            m_paidBy_54 N (m_paidBy_20 N n) x1 x2 x3 1 r1 w1
          else
            m_paidBy_54 N (m_paidBy_20 N n) x1 x2 x3 0 r1 w1
theorem w_m_paidBy_20 {l : Launch} {K : aw_K} (N d : Nat) (hd : 0 ≤ d) : ∀ (n : Nat) (x1 x2 x3 : Int) (w : aw_W) (y : Int) (v : aw_W), m_paidBy_20 N n x1 x2 x3 w = some (y, v) → aw_AW l K MX12_paidBy (d + 1) 20 [(0, .inr (.inr 49)), (1, .inl x1), (2, .inl x2), (3, .inl x3)] [] w (some (.inl y), v) := by
  intro n
  induction n with
  | zero => intro x1 x2 x3 w y v h; rw [m_paidBy_20] at h; cases h
  | succ n ih =>
    intro x1 x2 x3 w y v h
    rw [m_paidBy_20] at h
    refine aw_iload_n (pc := 20) (q := 3) dX12_paidBy_20 rfl ?_
    refine aw_aload_n (pc := 21) (q := 0) dX12_paidBy_21 rfl ?_
    refine aw_getf (pc := 22) (v := .inl (w 49 22)) dX12_paidBy_22 fl_RX12_270 (by decide) rfl rfl rfl ?_
    refine aw_icmp_ge (pc := 25) (tgt := 97) dX12_paidBy_25 (by decide) (fun hc => ?_) (fun hc => ?_)
    · rw [if_pos hc] at h
      exact aw_sel [0, 1, 2] rfl (w_m_paidBy_97 N d hd  _ _ _ _ _ h)
    · rw [if_neg hc] at h
      refine aw_iload_n (pc := 28) (q := 3) dX12_paidBy_28 rfl ?_
      refine aw_iload_n (pc := 29) (q := 1) dX12_paidBy_29 rfl ?_
      refine aw_icmp_eq (pc := 30) (tgt := 91) dX12_paidBy_30 (by decide) (fun hc => ?_) (fun hc => ?_)
      · rw [if_pos hc] at h
        exact aw_sel [0, 1, 2, 3] rfl (w_m_paidBy_91 N d hd  _ ih _ _ _ _ _ _ h)
      · rw [if_neg hc] at h
        refine aw_aload_n (pc := 33) (q := 0) dX12_paidBy_33 rfl ?_
        refine aw_iload_n (pc := 34) (q := 3) dX12_paidBy_34 rfl ?_
        refine aw_iload_n (pc := 35) (q := 1) dX12_paidBy_35 rfl ?_
        obtain ⟨r1, w1, h1, h⟩ := aw_b2s h
        refine aw_callV (pc := 36) (as := [.inl x3, .inl x1]) (st := []) (st' := [.inl r1]) dX12_paidBy_36 cv_RX12_323 (by decide) rfl rfl rfl rfl (Nat.le_of_ble_eq_true rfl) (w_m_isBefore N d (by omega) _ _ _ _ _ h1) rfl ?_
        refine aw_aload_n (pc := 39) (q := 0) dX12_paidBy_39 rfl ?_
        refine aw_getf (pc := 40) (v := .inr (.inr 56)) dX12_paidBy_40 fl_RX12_43 (by decide) rfl rfl rfl ?_
        refine aw_iconst (pc := 43) dX12_paidBy_43 ⟨by decide, by decide⟩ ?_
        refine aw_ialdv (pc := 44) (v := w1 56 2) dX12_paidBy_44 rfl (by decide) (by decide) rfl ?_
        refine aw_iconst (pc := 45) dX12_paidBy_45 ⟨by decide, by decide⟩ ?_
        refine aw_icmp_ne (pc := 46) (tgt := 53) dX12_paidBy_46 (by decide) (fun hc => ?_) (fun hc => ?_)
        · rw [if_neg hc] at h
          refine aw_iconst (pc := 53) dX12_paidBy_53 ⟨by decide, by decide⟩ ?_
          exact aw_sel [0, 1, 2, 3] rfl (w_m_paidBy_54 N d hd  _ ih _ _ _ _ _ _ _ _ h)
        · rw [if_pos hc] at h
          refine aw_iconst (pc := 49) dX12_paidBy_49 ⟨by decide, by decide⟩ ?_
          refine aw_goto (pc := 50) (tgt := 54) dX12_paidBy_50 (by decide) ?_
          exact aw_sel [0, 1, 2, 3] rfl (w_m_paidBy_54 N d hd  _ ih _ _ _ _ _ _ _ _ h)
def m_paidBy (N : Nat) (x1 : Int) (w : aw_W) : Option (Int × aw_W) :=
  if (w 56 2) = 0 then
    if 0 ≤ x1 ∧ x1 < 6 then
      some (w 64 x1.toNat, w)
    else none
  else
    m_paidBy_20 N N x1 (-1) 0 w
theorem w_m_paidBy_d {l : Launch} {K : aw_K} (N d : Nat) (hd : 0 ≤ d) : ∀ (x1 : Int) (w : aw_W) (y : Int) (v : aw_W), m_paidBy N x1 w = some (y, v) → aw_Met l K MX12_paidBy (d + 1) [.inr (.inr 49), .inl x1] w (some (.inl y), v) := by
  intro x1 w y v h
  unfold m_paidBy at h
  refine aw_enter rfl (Nat.le_of_ble_eq_true rfl) ?_
  show aw_AW l K MX12_paidBy (d + 1) 0 [(0, .inr (.inr 49)), (1, .inl x1)] [] w (some (.inl y), v)
  refine aw_aload_n (pc := 0) (q := 0) dX12_paidBy_0 rfl ?_
  refine aw_getf (pc := 1) (v := .inr (.inr 56)) dX12_paidBy_1 fl_RX12_43 (by decide) rfl rfl rfl ?_
  refine aw_iconst (pc := 4) dX12_paidBy_4 ⟨by decide, by decide⟩ ?_
  refine aw_ialdv (pc := 5) (v := w 56 2) dX12_paidBy_5 rfl (by decide) (by decide) rfl ?_
  refine aw_if_ne (pc := 6) (tgt := 16) dX12_paidBy_6 (by decide) (fun hc => ?_) (fun hc => ?_)
  · rw [if_neg hc] at h
    refine aw_iconst (pc := 16) dX12_paidBy_16 ⟨by decide, by decide⟩ ?_
    refine aw_istore_n (pc := 17) (ls' := [(2, .inl (-1)), (0, .inr (.inr 49)), (1, .inl x1)]) dX12_paidBy_17 (by decide) rfl ?_
    refine aw_iconst (pc := 18) dX12_paidBy_18 ⟨by decide, by decide⟩ ?_
    refine aw_istore_n (pc := 19) (ls' := [(3, .inl 0), (2, .inl (-1)), (0, .inr (.inr 49)), (1, .inl x1)]) dX12_paidBy_19 (by decide) rfl ?_
    exact aw_sel [2, 3, 1, 0] rfl (w_m_paidBy_20 N d hd  N _ _ _ _ _ _ h)
  · rw [if_pos hc] at h
    refine aw_aload_n (pc := 9) (q := 0) dX12_paidBy_9 rfl ?_
    refine aw_getf (pc := 10) (v := .inr (.inr 64)) dX12_paidBy_10 fl_RX12_72 (by decide) rfl rfl rfl ?_
    refine aw_iload_n (pc := 13) (q := 1) dX12_paidBy_13 rfl ?_
    obtain ⟨hb, h⟩ := aw_cks h
    refine aw_ialdv (pc := 14) (v := w 64 x1.toNat) dX12_paidBy_14 rfl hb.1 hb.2 rfl ?_
    cases h
    exact aw_iret (pc := 15) rfl dX12_paidBy_15
theorem w_m_paidBy {l : Launch} {K : aw_K} (N d : Nat) (hd : 1 ≤ d) : ∀ (x1 : Int) (w : aw_W) (y : Int) (v : aw_W), m_paidBy N x1 w = some (y, v) → aw_Met l K MX12_paidBy (d) [.inr (.inr 49), .inl x1] w (some (.inl y), v) := by
  obtain ⟨e, rfl⟩ : ∃ e, d = e + 1 := ⟨d - 1, by omega⟩
  exact w_m_paidBy_d N e (by omega)
theorem dX12_firsts_0 : decode cX12_firsts 0 = .ok (.iconst 0, 1) := by decide +kernel
theorem dX12_firsts_1 : decode cX12_firsts 1 = .ok (.istore_n 1, 1) := by decide +kernel
theorem dX12_firsts_2 : decode cX12_firsts 2 = .ok (.iconst 0, 1) := by decide +kernel
theorem dX12_firsts_3 : decode cX12_firsts 3 = .ok (.istore_n 2, 1) := by decide +kernel
theorem dX12_firsts_4 : decode cX12_firsts 4 = .ok (.iload_n 2, 1) := by decide +kernel
theorem dX12_firsts_5 : decode cX12_firsts 5 = .ok (.aload_n 0, 1) := by decide +kernel
theorem dX12_firsts_6 : decode cX12_firsts 6 = .ok (.getfield 270, 3) := by decide +kernel
theorem dX12_firsts_9 : decode cX12_firsts 9 = .ok (.if_icmp .ge 36, 3) := by decide +kernel
theorem dX12_firsts_12 : decode cX12_firsts 12 = .ok (.iload_n 1, 1) := by decide +kernel
theorem dX12_firsts_13 : decode cX12_firsts 13 = .ok (.aload_n 0, 1) := by decide +kernel
theorem dX12_firsts_14 : decode cX12_firsts 14 = .ok (.getfield 55, 3) := by decide +kernel
theorem dX12_firsts_17 : decode cX12_firsts 17 = .ok (.iload_n 2, 1) := by decide +kernel
theorem dX12_firsts_18 : decode cX12_firsts 18 = .ok (.baload, 1) := by decide +kernel
theorem dX12_firsts_19 : decode cX12_firsts 19 = .ok (.ifCond .ne 17, 3) := by decide +kernel
theorem dX12_firsts_22 : decode cX12_firsts 22 = .ok (.aload_n 0, 1) := by decide +kernel
theorem dX12_firsts_23 : decode cX12_firsts 23 = .ok (.iload_n 2, 1) := by decide +kernel
theorem dX12_firsts_24 : decode cX12_firsts 24 = .ok (.invokevirtual 290, 3) := by decide +kernel
theorem dX12_firsts_27 : decode cX12_firsts 27 = .ok (.ifCond .ne 9, 3) := by decide +kernel
theorem dX12_firsts_30 : decode cX12_firsts 30 = .ok (.iconst 1, 1) := by decide +kernel
theorem dX12_firsts_31 : decode cX12_firsts 31 = .ok (.iload_n 2, 1) := by decide +kernel
theorem dX12_firsts_32 : decode cX12_firsts 32 = .ok (.ishl, 1) := by decide +kernel
theorem dX12_firsts_33 : decode cX12_firsts 33 = .ok (.goto 4, 3) := by decide +kernel
theorem dX12_firsts_36 : decode cX12_firsts 36 = .ok (.iconst 0, 1) := by decide +kernel
theorem dX12_firsts_37 : decode cX12_firsts 37 = .ok (.ior, 1) := by decide +kernel
theorem dX12_firsts_38 : decode cX12_firsts 38 = .ok (.istore_n 1, 1) := by decide +kernel
theorem dX12_firsts_39 : decode cX12_firsts 39 = .ok (.iinc 2 1, 3) := by decide +kernel
theorem dX12_firsts_42 : decode cX12_firsts 42 = .ok (.goto (-38), 3) := by decide +kernel
theorem dX12_firsts_45 : decode cX12_firsts 45 = .ok (.iload_n 1, 1) := by decide +kernel
theorem dX12_firsts_46 : decode cX12_firsts 46 = .ok (.ireturn, 1) := by decide +kernel
def m_firsts_45 (N : Nat) (x1 : Int) (w : aw_W) : Option (Int × aw_W) :=
  some (x1, w)
theorem w_m_firsts_45 {l : Launch} {K : aw_K} (N d : Nat) (hd : 1 ≤ d) : ∀ (x1 : Int) (w : aw_W) (y : Int) (v : aw_W), m_firsts_45 N x1 w = some (y, v) → aw_AW l K MX12_firsts (d + 1) 45 [(1, .inl x1)] [] w (some (.inl y), v) := by
  intro x1 w y v h
  unfold m_firsts_45 at h
  refine aw_iload_n (pc := 45) (q := 0) dX12_firsts_45 rfl ?_
  cases h
  exact aw_iret (pc := 46) rfl dX12_firsts_46
def m_firsts_37 (N : Nat) (k4 : Int → Int → aw_W → Option (Int × aw_W)) (x2 s0 s1 : Int) (w : aw_W) : Option (Int × aw_W) :=
  k4 (aw_or s1 s0) (aw_w (x2 + 1)) w
theorem w_m_firsts_37 {l : Launch} {K : aw_K} (N d : Nat) (hd : 1 ≤ d) (k4 : Int → Int → aw_W → Option (Int × aw_W)) (hk4 : ∀ (x1 x2 : Int) (w : aw_W) (y : Int) (v : aw_W), k4 x1 x2 w = some (y, v) → aw_AW l K MX12_firsts (d + 1) 4 [(0, .inr (.inr 49)), (1, .inl x1), (2, .inl x2)] [] w (some (.inl y), v)) : ∀ (x2 s0 s1 : Int) (w : aw_W) (y : Int) (v : aw_W), m_firsts_37 N k4 x2 s0 s1 w = some (y, v) → aw_AW l K MX12_firsts (d + 1) 37 [(0, .inr (.inr 49)), (2, .inl x2)] [.inl s0, .inl s1] w (some (.inl y), v) := by
  intro x2 s0 s1 w y v h
  unfold m_firsts_37 at h
  refine aw_ior (pc := 37) dX12_firsts_37 ?_
  refine aw_istore_n (pc := 38) (ls' := [(1, .inl (aw_or s1 s0)), (0, .inr (.inr 49)), (2, .inl x2)]) dX12_firsts_38 (by decide) rfl ?_
  refine aw_iinc (pc := 39) (q := 2) (ls' := [(2, .inl (aw_w (x2 + 1))), (1, .inl (aw_or s1 s0)), (0, .inr (.inr 49))]) dX12_firsts_39 rfl (by decide) rfl ?_
  refine aw_goto (pc := 42) (tgt := 4) dX12_firsts_42 (by decide) ?_
  exact aw_sel [2, 1, 0] rfl (hk4 _ _ _ _ _ h)
def m_firsts_36 (N : Nat) (k4 : Int → Int → aw_W → Option (Int × aw_W)) (x2 s0 : Int) (w : aw_W) : Option (Int × aw_W) :=
  m_firsts_37 N k4 x2 0 s0 w
theorem w_m_firsts_36 {l : Launch} {K : aw_K} (N d : Nat) (hd : 1 ≤ d) (k4 : Int → Int → aw_W → Option (Int × aw_W)) (hk4 : ∀ (x1 x2 : Int) (w : aw_W) (y : Int) (v : aw_W), k4 x1 x2 w = some (y, v) → aw_AW l K MX12_firsts (d + 1) 4 [(0, .inr (.inr 49)), (1, .inl x1), (2, .inl x2)] [] w (some (.inl y), v)) : ∀ (x2 s0 : Int) (w : aw_W) (y : Int) (v : aw_W), m_firsts_36 N k4 x2 s0 w = some (y, v) → aw_AW l K MX12_firsts (d + 1) 36 [(0, .inr (.inr 49)), (2, .inl x2)] [.inl s0] w (some (.inl y), v) := by
  intro x2 s0 w y v h
  unfold m_firsts_36 at h
  refine aw_iconst (pc := 36) dX12_firsts_36 ⟨by decide, by decide⟩ ?_
  exact aw_sel [0, 1] rfl (w_m_firsts_37 N d hd  _ hk4 _ _ _ _ _ _ h)
def m_firsts_4 (N : Nat) : Nat → Int → Int → aw_W → Option (Int × aw_W)
  | 0, _, _, _ => none
  | n + 1, x1, x2, w =>
    if (w 49 22) ≤ x2 then
      m_firsts_45 N x1 w
    else
      if 0 ≤ x2 ∧ x2 < 6 then
        if (w 60 x2.toNat) = 0 then
          aw_b2 (m_aheadOf N x2 w) fun r1 w1 =>
            if r1 = 0 then
              m_firsts_37 N (m_firsts_4 N n) x2 (aw_shl 1 x2) x1 w1
            else
              m_firsts_36 N (m_firsts_4 N n) x2 x1 w1
        else
          m_firsts_36 N (m_firsts_4 N n) x2 x1 w
      else none
theorem w_m_firsts_4 {l : Launch} {K : aw_K} (N d : Nat) (hd : 1 ≤ d) : ∀ (n : Nat) (x1 x2 : Int) (w : aw_W) (y : Int) (v : aw_W), m_firsts_4 N n x1 x2 w = some (y, v) → aw_AW l K MX12_firsts (d + 1) 4 [(0, .inr (.inr 49)), (1, .inl x1), (2, .inl x2)] [] w (some (.inl y), v) := by
  intro n
  induction n with
  | zero => intro x1 x2 w y v h; rw [m_firsts_4] at h; cases h
  | succ n ih =>
    intro x1 x2 w y v h
    rw [m_firsts_4] at h
    refine aw_iload_n (pc := 4) (q := 2) dX12_firsts_4 rfl ?_
    refine aw_aload_n (pc := 5) (q := 0) dX12_firsts_5 rfl ?_
    refine aw_getf (pc := 6) (v := .inl (w 49 22)) dX12_firsts_6 fl_RX12_270 (by decide) rfl rfl rfl ?_
    refine aw_icmp_ge (pc := 9) (tgt := 45) dX12_firsts_9 (by decide) (fun hc => ?_) (fun hc => ?_)
    · rw [if_pos hc] at h
      exact aw_sel [1] rfl (w_m_firsts_45 N d hd  _ _ _ _ h)
    · rw [if_neg hc] at h
      refine aw_iload_n (pc := 12) (q := 1) dX12_firsts_12 rfl ?_
      refine aw_aload_n (pc := 13) (q := 0) dX12_firsts_13 rfl ?_
      refine aw_getf (pc := 14) (v := .inr (.inr 60)) dX12_firsts_14 fl_RX12_55 (by decide) rfl rfl rfl ?_
      refine aw_iload_n (pc := 17) (q := 2) dX12_firsts_17 rfl ?_
      obtain ⟨hb, h⟩ := aw_cks h
      refine aw_zaldv (pc := 18) (v := w 60 x2.toNat) dX12_firsts_18 rfl hb.1 hb.2 rfl ?_
      refine aw_if_ne (pc := 19) (tgt := 36) dX12_firsts_19 (by decide) (fun hc => ?_) (fun hc => ?_)
      · rw [if_neg hc] at h
        exact aw_sel [0, 2] rfl (w_m_firsts_36 N d hd  _ ih _ _ _ _ _ h)
      · rw [if_pos hc] at h
        refine aw_aload_n (pc := 22) (q := 0) dX12_firsts_22 rfl ?_
        refine aw_iload_n (pc := 23) (q := 2) dX12_firsts_23 rfl ?_
        obtain ⟨r1, w1, h1, h⟩ := aw_b2s h
        refine aw_callV (pc := 24) (as := [.inl x2]) (st := [.inl x1]) (st' := [.inl r1, .inl x1]) dX12_firsts_24 cv_RX12_290 (by decide) rfl rfl rfl rfl (Nat.le_of_ble_eq_true rfl) (w_m_aheadOf N d (by omega) _ _ _ _ h1) rfl ?_
        refine aw_if_ne (pc := 27) (tgt := 36) dX12_firsts_27 (by decide) (fun hc => ?_) (fun hc => ?_)
        · rw [if_neg hc] at h
          exact aw_sel [0, 2] rfl (w_m_firsts_36 N d hd  _ ih _ _ _ _ _ h)
        · rw [if_pos hc] at h
          refine aw_iconst (pc := 30) dX12_firsts_30 ⟨by decide, by decide⟩ ?_
          refine aw_iload_n (pc := 31) (q := 2) dX12_firsts_31 rfl ?_
          refine aw_ishl (pc := 32) dX12_firsts_32 ?_
          refine aw_goto (pc := 33) (tgt := 37) dX12_firsts_33 (by decide) ?_
          exact aw_sel [0, 2] rfl (w_m_firsts_37 N d hd  _ ih _ _ _ _ _ _ h)
def m_firsts (N : Nat) (w : aw_W) : Option (Int × aw_W) :=
  m_firsts_4 N N 0 0 w
theorem w_m_firsts_d {l : Launch} {K : aw_K} (N d : Nat) (hd : 1 ≤ d) : ∀ (w : aw_W) (y : Int) (v : aw_W), m_firsts N w = some (y, v) → aw_Met l K MX12_firsts (d + 1) [.inr (.inr 49)] w (some (.inl y), v) := by
  intro w y v h
  unfold m_firsts at h
  refine aw_enter rfl (Nat.le_of_ble_eq_true rfl) ?_
  show aw_AW l K MX12_firsts (d + 1) 0 [(0, .inr (.inr 49))] [] w (some (.inl y), v)
  refine aw_iconst (pc := 0) dX12_firsts_0 ⟨by decide, by decide⟩ ?_
  refine aw_istore_n (pc := 1) (ls' := [(1, .inl 0), (0, .inr (.inr 49))]) dX12_firsts_1 (by decide) rfl ?_
  refine aw_iconst (pc := 2) dX12_firsts_2 ⟨by decide, by decide⟩ ?_
  refine aw_istore_n (pc := 3) (ls' := [(2, .inl 0), (1, .inl 0), (0, .inr (.inr 49))]) dX12_firsts_3 (by decide) rfl ?_
  exact aw_sel [2, 1, 0] rfl (w_m_firsts_4 N d hd  N _ _ _ _ _ h)
theorem w_m_firsts {l : Launch} {K : aw_K} (N d : Nat) (hd : 2 ≤ d) : ∀ (w : aw_W) (y : Int) (v : aw_W), m_firsts N w = some (y, v) → aw_Met l K MX12_firsts (d) [.inr (.inr 49)] w (some (.inl y), v) := by
  obtain ⟨e, rfl⟩ : ∃ e, d = e + 1 := ⟨d - 1, by omega⟩
  exact w_m_firsts_d N e (by omega)
