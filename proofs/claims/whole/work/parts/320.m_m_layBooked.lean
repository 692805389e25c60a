theorem dX12_layBooked_0 : decode cX12_layBooked 0 = .ok (.aload_n 0, 1) := by decide +kernel
theorem dX12_layBooked_1 : decode cX12_layBooked 1 = .ok (.getfield 87, 3) := by decide +kernel
theorem dX12_layBooked_4 : decode cX12_layBooked 4 = .ok (.iload_n 1, 1) := by decide +kernel
theorem dX12_layBooked_5 : decode cX12_layBooked 5 = .ok (.iaload, 1) := by decide +kernel
theorem dX12_layBooked_6 : decode cX12_layBooked 6 = .ok (.istore_n 2, 1) := by decide +kernel
theorem dX12_layBooked_7 : decode cX12_layBooked 7 = .ok (.aload_n 0, 1) := by decide +kernel
theorem dX12_layBooked_8 : decode cX12_layBooked 8 = .ok (.getfield 270, 3) := by decide +kernel
theorem dX12_layBooked_11 : decode cX12_layBooked 11 = .ok (.iconst 1, 1) := by decide +kernel
theorem dX12_layBooked_12 : decode cX12_layBooked 12 = .ok (.isub, 1) := by decide +kernel
theorem dX12_layBooked_13 : decode cX12_layBooked 13 = .ok (.istore_n 3, 1) := by decide +kernel
theorem dX12_layBooked_14 : decode cX12_layBooked 14 = .ok (.iload_n 3, 1) := by decide +kernel
theorem dX12_layBooked_15 : decode cX12_layBooked 15 = .ok (.ifCond .lt 24, 3) := by decide +kernel
theorem dX12_layBooked_18 : decode cX12_layBooked 18 = .ok (.aload_n 0, 1) := by decide +kernel
theorem dX12_layBooked_19 : decode cX12_layBooked 19 = .ok (.getfield 72, 3) := by decide +kernel
theorem dX12_layBooked_22 : decode cX12_layBooked 22 = .ok (.iload_n 3, 1) := by decide +kernel
theorem dX12_layBooked_23 : decode cX12_layBooked 23 = .ok (.iload_n 2, 1) := by decide +kernel
theorem dX12_layBooked_24 : decode cX12_layBooked 24 = .ok (.bipush 10, 2) := by decide +kernel
theorem dX12_layBooked_26 : decode cX12_layBooked 26 = .ok (.irem, 1) := by decide +kernel
theorem dX12_layBooked_27 : decode cX12_layBooked 27 = .ok (.iastore, 1) := by decide +kernel
theorem dX12_layBooked_28 : decode cX12_layBooked 28 = .ok (.iload_n 2, 1) := by decide +kernel
theorem dX12_layBooked_29 : decode cX12_layBooked 29 = .ok (.bipush 10, 2) := by decide +kernel
theorem dX12_layBooked_31 : decode cX12_layBooked 31 = .ok (.idiv, 1) := by decide +kernel
theorem dX12_layBooked_32 : decode cX12_layBooked 32 = .ok (.istore_n 2, 1) := by decide +kernel
theorem dX12_layBooked_33 : decode cX12_layBooked 33 = .ok (.iinc 3 (-1), 3) := by decide +kernel
theorem dX12_layBooked_36 : decode cX12_layBooked 36 = .ok (.goto (-22), 3) := by decide +kernel
theorem dX12_layBooked_39 : decode cX12_layBooked 39 = .ok (.aload_n 0, 1) := by decide +kernel
theorem dX12_layBooked_40 : decode cX12_layBooked 40 = .ok (.invokevirtual 326, 3) := by decide +kernel
theorem dX12_layBooked_43 : decode cX12_layBooked 43 = .ok (.return_, 1) := by decide +kernel
def m_layBooked_39 (N : Nat) (w : aw_W) : Option (aw_W) :=
  aw_b1 (m_judge N w) fun w1 =>
    some w1
theorem w_m_layBooked_39 {l : Launch} {K : aw_K} (N d : Nat) (hd : 0 ≤ d) : ∀ (w v : aw_W), m_layBooked_39 N w = some v → aw_AW l K MX12_layBooked (d + 1) 39 [(0, .inr (.inr 49))] [] w (none, v) := by
  intro w v h
  unfold m_layBooked_39 at h
  refine aw_aload_n (pc := 39) (q := 0) dX12_layBooked_39 rfl ?_
  obtain ⟨w1, h1, h⟩ := aw_b1s h
  refine aw_callV (pc := 40) (as := []) (st := []) (st' := []) dX12_layBooked_40 cv_RX12_326 (by decide) rfl rfl rfl rfl (Nat.le_of_ble_eq_true rfl) (w_m_judge N d (by omega) _ _ h1) rfl ?_
  cases h
  exact aw_vret (pc := 43) rfl dX12_layBooked_43
def m_layBooked_14 (N : Nat) : Nat → Int → Int → aw_W → Option (aw_W)
  | 0, _, _, _ => none
  | n + 1, x2, x3, w =>
    if x3 < 0 then
      m_layBooked_39 N w
    else
      if 0 ≤ x3 ∧ x3 < 6 then
        m_layBooked_14 N n (aw_w (Int.tdiv x2 10)) (aw_w (x3 + (-1))) (aw_up w 64 x3.toNat (aw_w (Int.tmod x2 10)))
      else none
theorem w_m_layBooked_14 {l : Launch} {K : aw_K} (N d : Nat) (hd : 0 ≤ d) : ∀ (n : Nat) (x2 x3 : Int) (w v : aw_W), m_layBooked_14 N n x2 x3 w = some v → aw_AW l K MX12_layBooked (d + 1) 14 [(0, .inr (.inr 49)), (2, .inl x2), (3, .inl x3)] [] w (none, v) := by
  intro n
  induction n with
  | zero => intro x2 x3 w v h; rw [m_layBooked_14] at h; cases h
  | succ n ih =>
    intro x2 x3 w v h
    rw [m_layBooked_14] at h
    refine aw_iload_n (pc := 14) (q := 2) dX12_layBooked_14 rfl ?_
    refine aw_if_lt (pc := 15) (tgt := 39) dX12_layBooked_15 (by decide) (fun hc => ?_) (fun hc => ?_)
    · rw [if_pos hc] at h
      exact aw_sel [0] rfl (w_m_layBooked_39 N d hd  _ _ h)
    · rw [if_neg hc] at h
      refine aw_aload_n (pc := 18) (q := 0) dX12_layBooked_18 rfl ?_
      refine aw_getf (pc := 19) (v := .inr (.inr 64)) dX12_layBooked_19 fl_RX12_72 (by decide) rfl rfl rfl ?_
      refine aw_iload_n (pc := 22) (q := 2) dX12_layBooked_22 rfl ?_
      refine aw_iload_n (pc := 23) (q := 1) dX12_layBooked_23 rfl ?_
      refine aw_bipush (pc := 24) dX12_layBooked_24 (by decide) ⟨by decide, by decide⟩ ?_
      refine aw_irem (pc := 26) dX12_layBooked_26 (by decide) ?_
      obtain ⟨hb, h⟩ := aw_cks h
      refine aw_iast (pc := 27) dX12_layBooked_27 rfl hb.1 hb.2 ?_
      refine aw_iload_n (pc := 28) (q := 1) dX12_layBooked_28 rfl ?_
      refine aw_bipush (pc := 29) dX12_layBooked_29 (by decide) ⟨by decide, by decide⟩ ?_
      refine aw_idiv (pc := 31) dX12_layBooked_31 (by decide) ?_
      refine aw_istore_n (pc := 32) (ls' := [(2, .inl (aw_w (Int.tdiv x2 10))), (0, .inr (.inr 49)), (3, .inl x3)]) dX12_layBooked_32 (by decide) rfl ?_
      refine aw_iinc (pc := 33) (q := 2) (ls' := [(3, .inl (aw_w (x3 + (-1)))), (2, .inl (aw_w (Int.tdiv x2 10))), (0, .inr (.inr 49))]) dX12_layBooked_33 rfl (by decide) rfl ?_
      refine aw_goto (pc := 36) (tgt := 14) dX12_layBooked_36 (by decide) ?_
      exact aw_sel [2, 1, 0] rfl (ih _ _ _ _ h)
def m_layBooked (N : Nat) (x1 : Int) (w : aw_W) : Option (aw_W) :=
  if 0 ≤ x1 ∧ x1 < 40 then
    m_layBooked_14 N N (w 69 x1.toNat) (aw_w ((w 49 22) - 1)) w
  else none
theorem w_m_layBooked_d {l : Launch} {K : aw_K} (N d : Nat) (hd : 0 ≤ d) : ∀ (x1 : Int) (w v : aw_W), m_layBooked N x1 w = some v → aw_Met l K MX12_layBooked (d + 1) [.inr (.inr 49), .inl x1] w (none, v) := by
  intro x1 w v h
  unfold m_layBooked at h
  refine aw_enter rfl (Nat.le_of_ble_eq_true rfl) ?_
  show aw_AW l K MX12_layBooked (d + 1) 0 [(0, .inr (.inr 49)), (1, .inl x1)] [] w (none, v)
  refine aw_aload_n (pc := 0) (q := 0) dX12_layBooked_0 rfl ?_
  refine aw_getf (pc := 1) (v := .inr (.inr 69)) dX12_layBooked_1 fl_RX12_87 (by decide) rfl rfl rfl ?_
  refine aw_iload_n (pc := 4) (q := 1) dX12_layBooked_4 rfl ?_
  obtain ⟨hb, h⟩ := aw_cks h
  refine aw_ialdv (pc := 5) (v := w 69 x1.toNat) dX12_layBooked_5 rfl hb.1 hb.2 rfl ?_
  refine aw_istore_n (pc := 6) (ls' := [(2, .inl (w 69 x1.toNat)), (0, .inr (.inr 49)), (1, .inl x1)]) dX12_layBooked_6 (by decide) rfl ?_
  refine aw_aload_n (pc := 7) (q := 1) dX12_layBooked_7 rfl ?_
  refine aw_getf (pc := 8) (v := .inl (w 49 22)) dX12_layBooked_8 fl_RX12_270 (by decide) rfl rfl rfl ?_
  refine aw_iconst (pc := 11) dX12_layBooked_11 ⟨by decide, by decide⟩ ?_
  refine aw_isub (pc := 12) dX12_layBooked_12 ?_
  refine aw_istore_n (pc := 13) (ls' := [(3, .inl (aw_w ((w 49 22) - 1))), (2, .inl (w 69 x1.toNat)), (0, .inr (.inr 49)), (1, .inl x1)]) dX12_layBooked_13 (by decide) rfl ?_
  exact aw_sel [2, 1, 0] rfl (w_m_layBooked_14 N d hd  N _ _ _ _ h)
theorem w_m_layBooked {l : Launch} {K : aw_K} (N d : Nat) (hd : 1 ≤ d) : ∀ (x1 : Int) (w v : aw_W), m_layBooked N x1 w = some v → aw_Met l K MX12_layBooked (d) [.inr (.inr 49), .inl x1] w (none, v) := by
  obtain ⟨e, rfl⟩ : ∃ e, d = e + 1 := ⟨d - 1, by omega⟩
  exact w_m_layBooked_d N e (by omega)
theorem dX12_madeBy_0 : decode cX12_madeBy 0 = .ok (.iconst 0, 1) := by decide +kernel
theorem dX12_madeBy_1 : decode cX12_madeBy 1 = .ok (.istore_n 3, 1) := by decide +kernel
theorem dX12_madeBy_2 : decode cX12_madeBy 2 = .ok (.iconst 0, 1) := by decide +kernel
theorem dX12_madeBy_3 : decode cX12_madeBy 3 = .ok (.istore 4, 2) := by decide +kernel
theorem dX12_madeBy_5 : decode cX12_madeBy 5 = .ok (.iload 4, 2) := by decide +kernel
theorem dX12_madeBy_7 : decode cX12_madeBy 7 = .ok (.aload_n 0, 1) := by decide +kernel
theorem dX12_madeBy_8 : decode cX12_madeBy 8 = .ok (.getfield 273, 3) := by decide +kernel
theorem dX12_madeBy_11 : decode cX12_madeBy 11 = .ok (.if_icmp .ge 41, 3) := by decide +kernel
theorem dX12_madeBy_14 : decode cX12_madeBy 14 = .ok (.aload_n 0, 1) := by decide +kernel
theorem dX12_madeBy_15 : decode cX12_madeBy 15 = .ok (.iload 4, 2) := by decide +kernel
theorem dX12_madeBy_17 : decode cX12_madeBy 17 = .ok (.invokevirtual 421, 3) := by decide +kernel
theorem dX12_madeBy_20 : decode cX12_madeBy 20 = .ok (.iload_n 3, 1) := by decide +kernel
theorem dX12_madeBy_21 : decode cX12_madeBy 21 = .ok (.aload_n 0, 1) := by decide +kernel
theorem dX12_madeBy_22 : decode cX12_madeBy 22 = .ok (.invokevirtual 320, 3) := by decide +kernel
theorem dX12_madeBy_25 : decode cX12_madeBy 25 = .ok (.iload_n 2, 1) := by decide +kernel
theorem dX12_madeBy_26 : decode cX12_madeBy 26 = .ok (.if_icmp .ne 17, 3) := by decide +kernel
theorem dX12_madeBy_29 : decode cX12_madeBy 29 = .ok (.aload_n 0, 1) := by decide +kernel
theorem dX12_madeBy_30 : decode cX12_madeBy 30 = .ok (.invokevirtual 332, 3) := by decide +kernel
theorem dX12_madeBy_33 : decode cX12_madeBy 33 = .ok (.iconst 1, 1) := by decide +kernel
theorem dX12_madeBy_34 : decode cX12_madeBy 34 = .ok (.iload_n 1, 1) := by decide +kernel
theorem dX12_madeBy_35 : decode cX12_madeBy 35 = .ok (.ishl, 1) := by decide +kernel
theorem dX12_madeBy_36 : decode cX12_madeBy 36 = .ok (.if_icmp .ne 7, 3) := by decide +kernel
theorem dX12_madeBy_39 : decode cX12_madeBy 39 = .ok (.iconst 1, 1) := by decide +kernel
theorem dX12_madeBy_40 : decode cX12_madeBy 40 = .ok (.goto 4, 3) := by decide +kernel
theorem dX12_madeBy_43 : decode cX12_madeBy 43 = .ok (.iconst 0, 1) := by decide +kernel
theorem dX12_madeBy_44 : decode cX12_madeBy 44 = .ok (.iadd, 1) := by decide +kernel
theorem dX12_madeBy_45 : decode cX12_madeBy 45 = .ok (.istore_n 3, 1) := by decide +kernel
theorem dX12_madeBy_46 : decode cX12_madeBy 46 = .ok (.iinc 4 1, 3) := by decide +kernel
theorem dX12_madeBy_49 : decode cX12_madeBy 49 = .ok (.goto (-44), 3) := by decide +kernel
theorem dX12_madeBy_52 : decode cX12_madeBy 52 = .ok (.iload_n 3, 1) := by decide +kernel
theorem dX12_madeBy_53 : decode cX12_madeBy 53 = .ok (.ireturn, 1) := by decide +kernel
def m_madeBy_52 (N : Nat) (x3 : Int) (w : aw_W) : Option (Int × aw_W) :=
  some (x3, w)
theorem w_m_madeBy_52 {l : Launch} {K : aw_K} (N d : Nat) (hd : 2 ≤ d) : ∀ (x3 : Int) (w : aw_W) (y : Int) (v : aw_W), m_madeBy_52 N x3 w = some (y, v) → aw_AW l K MX12_madeBy (d + 1) 52 [(3, .inl x3)] [] w (some (.inl y), v) := by
  intro x3 w y v h
  unfold m_madeBy_52 at h
  refine aw_iload_n (pc := 52) (q := 0) dX12_madeBy_52 rfl ?_
  cases h
  exact aw_iret (pc := 53) rfl dX12_madeBy_53
def m_madeBy_44 (N : Nat) (k5 : Int → Int → Int → Int → aw_W → Option (Int × aw_W)) (x1 x2 x4 s0 s1 : Int) (w : aw_W) : Option (Int × aw_W) :=
  k5 x1 x2 (aw_w (s1 + s0)) (aw_w (x4 + 1)) w
theorem w_m_madeBy_44 {l : Launch} {K : aw_K} (N d : Nat) (hd : 2 ≤ d) (k5 : Int → Int → Int → Int → aw_W → Option (Int × aw_W)) (hk5 : ∀ (x1 x2 x3 x4 : Int) (w : aw_W) (y : Int) (v : aw_W), k5 x1 x2 x3 x4 w = some (y, v) → aw_AW l K MX12_madeBy (d + 1) 5 [(0, .inr (.inr 49)), (1, .inl x1), (2, .inl x2), (3, .inl x3), (4, .inl x4)] [] w (some (.inl y), v)) : ∀ (x1 x2 x4 s0 s1 : Int) (w : aw_W) (y : Int) (v : aw_W), m_madeBy_44 N k5 x1 x2 x4 s0 s1 w = some (y, v) → aw_AW l K MX12_madeBy (d + 1) 44 [(0, .inr (.inr 49)), (1, .inl x1), (2, .inl x2), (4, .inl x4)] [.inl s0, .inl s1] w (some (.inl y), v) := by
  intro x1 x2 x4 s0 s1 w y v h
  unfold m_madeBy_44 at h
  refine aw_iadd (pc := 44) dX12_madeBy_44 ?_
  refine aw_istore_n (pc := 45) (ls' := [(3, .inl (aw_w (s1 + s0))), (0, .inr (.inr 49)), (1, .inl x1), (2, .inl x2), (4, .inl x4)]) dX12_madeBy_45 (by decide) rfl ?_
  refine aw_iinc (pc := 46) (q := 4) (ls' := [(4, .inl (aw_w (x4 + 1))), (3, .inl (aw_w (s1 + s0))), (0, .inr (.inr 49)), (1, .inl x1), (2, .inl x2)]) dX12_madeBy_46 rfl (by decide) rfl ?_
  refine aw_goto (pc := 49) (tgt := 5) dX12_madeBy_49 (by decide) ?_
  exact aw_sel [2, 3, 4, 1, 0] rfl (hk5 _ _ _ _ _ _ _ h)
def m_madeBy_43 (N : Nat) (k5 : Int → Int → Int → Int → aw_W → Option (Int × aw_W)) (x1 x2 x4 s0 : Int) (w : aw_W) : Option (Int × aw_W) :=
  m_madeBy_44 N k5 x1 x2 x4 0 s0 w
theorem w_m_madeBy_43 {l : Launch} {K : aw_K} (N d : Nat) (hd : 2 ≤ d) (k5 : Int → Int → Int → Int → aw_W → Option (Int × aw_W)) (hk5 : ∀ (x1 x2 x3 x4 : Int) (w : aw_W) (y : Int) (v : aw_W), k5 x1 x2 x3 x4 w = some (y, v) → aw_AW l K MX12_madeBy (d + 1) 5 [(0, .inr (.inr 49)), (1, .inl x1), (2, .inl x2), (3, .inl x3), (4, .inl x4)] [] w (some (.inl y), v)) : ∀ (x1 x2 x4 s0 : Int) (w : aw_W) (y : Int) (v : aw_W), m_madeBy_43 N k5 x1 x2 x4 s0 w = some (y, v) → aw_AW l K MX12_madeBy (d + 1) 43 [(0, .inr (.inr 49)), (1, .inl x1), (2, .inl x2), (4, .inl x4)] [.inl s0] w (some (.inl y), v) := by
  intro x1 x2 x4 s0 w y v h
  unfold m_madeBy_43 at h
  refine aw_iconst (pc := 43) dX12_madeBy_43 ⟨by decide, by decide⟩ ?_
  exact aw_sel [0, 1, 2, 3] rfl (w_m_madeBy_44 N d hd  _ hk5 _ _ _ _ _ _ _ _ h)
def m_madeBy_5 (N : Nat) : Nat → Int → Int → Int → Int → aw_W → Option (Int × aw_W)
  | 0, _, _, _, _, _ => none
  | n + 1, x1, x2, x3, x4, w =>
    if (w 49 43) ≤ x4 then
      m_madeBy_52 N x3 w
    else
      aw_b1 (m_layBooked N x4 w) fun w1 =>
        aw_b2 (m_winner N w1) fun r2 w2 =>
          if r2 = x2 then
            aw_b2 (m_firsts N w2) fun r3 w3 =>
              if r3 = (aw_shl 1 x1) then
                m_madeBy_44 N (m_madeBy_5 N n) x1 x2 x4 1 x3 w3
              else
                m_madeBy_43 N (m_madeBy_5 N n) x1 x2 x4 x3 w3
          else
            m_madeBy_43 N (m_madeBy_5 N n) x1 x2 x4 x3 w2
theorem w_m_madeBy_5 {l : Launch} {K : aw_K} (N d : Nat) (hd : 2 ≤ d) : ∀ (n : Nat) (x1 x2 x3 x4 : Int) (w : aw_W) (y : Int) (v : aw_W), m_madeBy_5 N n x1 x2 x3 x4 w = some (y, v) → aw_AW l K MX12_madeBy (d + 1) 5 [(0, .inr (.inr 49)), (1, .inl x1), (2, .inl x2), (3, .inl x3), (4, .inl x4)] [] w (some (.inl y), v) := by
  intro n
  induction n with
  | zero => intro x1 x2 x3 x4 w y v h; rw [m_madeBy_5] at h; cases h
  | succ n ih =>
    intro x1 x2 x3 x4 w y v h
    rw [m_madeBy_5] at h
    refine aw_iload (pc := 5) (q := 4) dX12_madeBy_5 rfl ?_
    refine aw_aload_n (pc := 7) (q := 0) dX12_madeBy_7 rfl ?_
    refine aw_getf (pc := 8) (v := .inl (w 49 43)) dX12_madeBy_8 fl_RX12_273 (by decide) rfl rfl rfl ?_
    refine aw_icmp_ge (pc := 11) (tgt := 52) dX12_madeBy_11 (by decide) (fun hc => ?_) (fun hc => ?_)
    · rw [if_pos hc] at h
      exact aw_sel [3] rfl (w_m_madeBy_52 N d hd  _ _ _ _ h)
    · rw [if_neg hc] at h
      refine aw_aload_n (pc := 14) (q := 0) dX12_madeBy_14 rfl ?_
      refine aw_iload (pc := 15) (q := 4) dX12_madeBy_15 rfl ?_
      obtain ⟨w1, h1, h⟩ := aw_b1s h
      refine aw_callV (pc := 17) (as := [.inl x4]) (st := []) (st' := []) dX12_madeBy_17 cv_RX12_421 (by decide) rfl rfl rfl rfl (Nat.le_of_ble_eq_true rfl) (w_m_layBooked N d (by omega) _ _ _ h1) rfl ?_
      refine aw_iload_n (pc := 20) (q := 3) dX12_madeBy_20 rfl ?_
      refine aw_aload_n (pc := 21) (q := 0) dX12_madeBy_21 rfl ?_
      obtain ⟨r2, w2, h2, h⟩ := aw_b2s h
      refine aw_callV (pc := 22) (as := []) (st := [.inl x3]) (st' := [.inl r2, .inl x3]) dX12_madeBy_22 cv_RX12_320 (by decide) rfl rfl rfl rfl (Nat.le_of_ble_eq_true rfl) (w_m_winner N d (by omega) _ _ _ h2) rfl ?_
      refine aw_iload_n (pc := 25) (q := 2) dX12_madeBy_25 rfl ?_
      refine aw_icmp_ne (pc := 26) (tgt := 43) dX12_madeBy_26 (by decide) (fun hc => ?_) (fun hc => ?_)
      · rw [if_neg hc] at h
        exact aw_sel [0, 1, 2, 4] rfl (w_m_madeBy_43 N d hd  _ ih _ _ _ _ _ _ _ h)
      · rw [if_pos hc] at h
        refine aw_aload_n (pc := 29) (q := 0) dX12_madeBy_29 rfl ?_
        obtain ⟨r3, w3, h3, h⟩ := aw_b2s h
        refine aw_callV (pc := 30) (as := []) (st := [.inl x3]) (st' := [.inl r3, .inl x3]) dX12_madeBy_30 cv_RX12_332 (by decide) rfl rfl rfl rfl (Nat.le_of_ble_eq_true rfl) (w_m_firsts N d (by omega) _ _ _ h3) rfl ?_
        refine aw_iconst (pc := 33) dX12_madeBy_33 ⟨by decide, by decide⟩ ?_
        refine aw_iload_n (pc := 34) (q := 1) dX12_madeBy_34 rfl ?_
        refine aw_ishl (pc := 35) dX12_madeBy_35 ?_
        refine aw_icmp_ne (pc := 36) (tgt := 43) dX12_madeBy_36 (by decide) (fun hc => ?_) (fun hc => ?_)
        · rw [if_neg hc] at h
          exact aw_sel [0, 1, 2, 4] rfl (w_m_madeBy_43 N d hd  _ ih _ _ _ _ _ _ _ h)
        · rw [if_pos hc] at h
          refine aw_iconst (pc := 39) dX12_madeBy_39 ⟨by decide, by decide⟩ ?_
          refine aw_goto (pc := 40) (tgt := 44) dX12_madeBy_40 (by decide) ?_
          exact aw_sel [0, 1, 2, 4] rfl (w_m_madeBy_44 N d hd  _ ih _ _ _ _ _ _ _ _ h)
def m_madeBy (N : Nat) (x1 x2 : Int) (w : aw_W) : Option (Int × aw_W) :=
  m_madeBy_5 N N x1 x2 0 0 w
theorem w_m_madeBy_d {l : Launch} {K : aw_K} (N d : Nat) (hd : 2 ≤ d) : ∀ (x1 x2 : Int) (w : aw_W) (y : Int) (v : aw_W), m_madeBy N x1 x2 w = some (y, v) → aw_Met l K MX12_madeBy (d + 1) [.inr (.inr 49), .inl x1, .inl x2] w (some (.inl y), v) := by
  intro x1 x2 w y v h
  unfold m_madeBy at h
  refine aw_enter rfl (Nat.le_of_ble_eq_true rfl) ?_
  show aw_AW l K MX12_madeBy (d + 1) 0 [(0, .inr (.inr 49)), (1, .inl x1), (2, .inl x2)] [] w (some (.inl y), v)
  refine aw_iconst (pc := 0) dX12_madeBy_0 ⟨by decide, by decide⟩ ?_
  refine aw_istore_n (pc := 1) (ls' := [(3, .inl 0), (0, .inr (.inr 49)), (1, .inl x1), (2, .inl x2)]) dX12_madeBy_1 (by decide) rfl ?_
  refine aw_iconst (pc := 2) dX12_madeBy_2 ⟨by decide, by decide⟩ ?_
  refine aw_istore (pc := 3) (ls' := [(4, .inl 0), (3, .inl 0), (0, .inr (.inr 49)), (1, .inl x1), (2, .inl x2)]) dX12_madeBy_3 (by decide) rfl ?_
  exact aw_sel [2, 3, 4, 1, 0] rfl (w_m_madeBy_5 N d hd  N _ _ _ _ _ _ _ h)
theorem w_m_madeBy {l : Launch} {K : aw_K} (N d : Nat) (hd : 3 ≤ d) : ∀ (x1 x2 : Int) (w : aw_W) (y : Int) (v : aw_W), m_madeBy N x1 x2 w = some (y, v) → aw_Met l K MX12_madeBy (d) [.inr (.inr 49), .inl x1, .inl x2] w (some (.inl y), v) := by
  obtain ⟨e, rfl⟩ : ∃ e, d = e + 1 := ⟨d - 1, by omega⟩
  exact w_m_madeBy_d N e (by omega)
theorem dX12_made_0 : decode cX12_made 0 = .ok (.aload_n 0, 1) := by decide +kernel
theorem dX12_made_1 : decode cX12_made 1 = .ok (.iconst 0, 1) := by decide +kernel
theorem dX12_made_2 : decode cX12_made 2 = .ok (.putfield 99, 3) := by decide +kernel
theorem dX12_made_5 : decode cX12_made 5 = .ok (.aload_n 0, 1) := by decide +kernel
theorem dX12_made_6 : decode cX12_made 6 = .ok (.iload_n 1, 1) := by decide +kernel
theorem dX12_made_7 : decode cX12_made 7 = .ok (.invokevirtual 282, 3) := by decide +kernel
theorem dX12_made_10 : decode cX12_made 10 = .ok (.ifCond .eq 16, 3) := by decide +kernel
theorem dX12_made_13 : decode cX12_made 13 = .ok (.aload_n 0, 1) := by decide +kernel
theorem dX12_made_14 : decode cX12_made 14 = .ok (.iload_n 2, 1) := by decide +kernel
theorem dX12_made_15 : decode cX12_made 15 = .ok (.invokevirtual 282, 3) := by decide +kernel
theorem dX12_made_18 : decode cX12_made 18 = .ok (.ifCond .eq 8, 3) := by decide +kernel
theorem dX12_made_21 : decode cX12_made 21 = .ok (.iload_n 1, 1) := by decide +kernel
theorem dX12_made_22 : decode cX12_made 22 = .ok (.iload_n 2, 1) := by decide +kernel
theorem dX12_made_23 : decode cX12_made 23 = .ok (.if_icmp .ne 7, 3) := by decide +kernel
theorem dX12_made_26 : decode cX12_made 26 = .ok (.iconst (-1), 1) := by decide +kernel
theorem dX12_made_27 : decode cX12_made 27 = .ok (.goto 9, 3) := by decide +kernel
theorem dX12_made_30 : decode cX12_made 30 = .ok (.aload_n 0, 1) := by decide +kernel
theorem dX12_made_31 : decode cX12_made 31 = .ok (.iload_n 1, 1) := by decide +kernel
theorem dX12_made_32 : decode cX12_made 32 = .ok (.iload_n 2, 1) := by decide +kernel
theorem dX12_made_33 : decode cX12_made 33 = .ok (.invokevirtual 424, 3) := by decide +kernel
theorem dX12_made_36 : decode cX12_made 36 = .ok (.ireturn, 1) := by decide +kernel
def m_made_36 (N : Nat) (s0 : Int) (w : aw_W) : Option (Int × aw_W) :=
  some (s0, w)
theorem w_m_made_36 {l : Launch} {K : aw_K} (N d : Nat) (hd : 3 ≤ d) : ∀ (s0 : Int) (w : aw_W) (y : Int) (v : aw_W), m_made_36 N s0 w = some (y, v) → aw_AW l K MX12_made (d + 1) 36 [] [.inl s0] w (some (.inl y), v) := by
  intro s0 w y v h
  unfold m_made_36 at h
  cases h
  exact aw_iret (pc := 36) rfl dX12_made_36
def m_made_26 (N : Nat) (w : aw_W) : Option (Int × aw_W) :=
  m_made_36 N (-1) w
theorem w_m_made_26 {l : Launch} {K : aw_K} (N d : Nat) (hd : 3 ≤ d) : ∀ (w : aw_W) (y : Int) (v : aw_W), m_made_26 N w = some (y, v) → aw_AW l K MX12_made (d + 1) 26 [] [] w (some (.inl y), v) := by
  intro w y v h
  unfold m_made_26 at h
  refine aw_iconst (pc := 26) dX12_made_26 ⟨by decide, by decide⟩ ?_
  refine aw_goto (pc := 27) (tgt := 36) dX12_made_27 (by decide) ?_
  exact aw_sel [] rfl (w_m_made_36 N d hd  _ _ _ _ h)
def m_made (N : Nat) (x1 x2 : Int) (w : aw_W) : Option (Int × aw_W) :=
  aw_b2 (m_isStriver N x1 (aw_up w 49 0 0)) fun r1 w1 =>
    if r1 = 0 then
      m_made_26 N w1
    else
      aw_b2 (m_isStriver N x2 w1) fun r2 w2 =>
        if r2 = 0 then
          m_made_26 N w2
        else
          if x1 = x2 then
            m_made_26 N w2
          else
            aw_b2 (m_madeBy N x1 x2 w2) fun r3 w3 =>
              m_made_36 N r3 w3
theorem w_m_made_d {l : Launch} {K : aw_K} (N d : Nat) (hd : 3 ≤ d) : ∀ (x1 x2 : Int) (w : aw_W) (y : Int) (v : aw_W), m_made N x1 x2 w = some (y, v) → aw_Met l K MX12_made (d + 1) [.inr (.inr 49), .inl x1, .inl x2] w (some (.inl y), v) := by
  intro x1 x2 w y v h
  unfold m_made at h
  refine aw_enter rfl (Nat.le_of_ble_eq_true rfl) ?_
  show aw_AW l K MX12_made (d + 1) 0 [(0, .inr (.inr 49)), (1, .inl x1), (2, .inl x2)] [] w (some (.inl y), v)
  refine aw_aload_n (pc := 0) (q := 0) dX12_made_0 rfl ?_
  refine aw_iconst (pc := 1) dX12_made_1 ⟨by decide, by decide⟩ ?_
  refine aw_puti (pc := 2) dX12_made_2 fp_RX12_99 (by decide) rfl rfl ?_
  refine aw_aload_n (pc := 5) (q := 0) dX12_made_5 rfl ?_
  refine aw_iload_n (pc := 6) (q := 1) dX12_made_6 rfl ?_
  obtain ⟨r1, w1, h1, h⟩ := aw_b2s h
  refine aw_callV (pc := 7) (as := [.inl x1]) (st := []) (st' := [.inl r1]) dX12_made_7 cv_RX12_282 (by decide) rfl rfl rfl rfl (Nat.le_of_ble_eq_true rfl) (w_m_isStriver N d (by omega) _ _ _ _ h1) rfl ?_
  refine aw_if_eq (pc := 10) (tgt := 26) dX12_made_10 (by decide) (fun hc => ?_) (fun hc => ?_)
  · rw [if_pos hc] at h
    exact aw_sel [] rfl (w_m_made_26 N d hd  _ _ _ h)
  · rw [if_neg hc] at h
    refine aw_aload_n (pc := 13) (q := 0) dX12_made_13 rfl ?_
    refine aw_iload_n (pc := 14) (q := 2) dX12_made_14 rfl ?_
    obtain ⟨r2, w2, h2, h⟩ := aw_b2s h
    refine aw_callV (pc := 15) (as := [.inl x2]) (st := []) (st' := [.inl r2]) dX12_made_15 cv_RX12_282 (by decide) rfl rfl rfl rfl (Nat.le_of_ble_eq_true rfl) (w_m_isStriver N d (by omega) _ _ _ _ h2) rfl ?_
    refine aw_if_eq (pc := 18) (tgt := 26) dX12_made_18 (by decide) (fun hc => ?_) (fun hc => ?_)
    · rw [if_pos hc] at h
      exact aw_sel [] rfl (w_m_made_26 N d hd  _ _ _ h)
    · rw [if_neg hc] at h
      refine aw_iload_n (pc := 21) (q := 1) dX12_made_21 rfl ?_
      refine aw_iload_n (pc := 22) (q := 2) dX12_made_22 rfl ?_
      refine aw_icmp_ne (pc := 23) (tgt := 30) dX12_made_23 (by decide) (fun hc => ?_) (fun hc => ?_)
      · rw [if_neg hc] at h
        refine aw_aload_n (pc := 30) (q := 0) dX12_made_30 rfl ?_
        refine aw_iload_n (pc := 31) (q := 1) dX12_made_31 rfl ?_
        refine aw_iload_n (pc := 32) (q := 2) dX12_made_32 rfl ?_
        obtain ⟨r3, w3, h3, h⟩ := aw_b2s h
        refine aw_callV (pc := 33) (as := [.inl x1, .inl x2]) (st := []) (st' := [.inl r3]) dX12_made_33 cv_RX12_424 (by decide) rfl rfl rfl rfl (Nat.le_of_ble_eq_true rfl) (w_m_madeBy N d (by omega) _ _ _ _ _ h3) rfl ?_
        exact aw_sel [] rfl (w_m_made_36 N d hd  _ _ _ _ h)
      · rw [if_pos hc] at h
        exact aw_sel [] rfl (w_m_made_26 N d hd  _ _ _ h)
theorem w_m_made {l : Launch} {K : aw_K} (N d : Nat) (hd : 4 ≤ d) : ∀ (x1 x2 : Int) (w : aw_W) (y : Int) (v : aw_W), m_made N x1 x2 w = some (y, v) → aw_Met l K MX12_made (d) [.inr (.inr 49), .inl x1, .inl x2] w (some (.inl y), v) := by
  obtain ⟨e, rfl⟩ : ∃ e, d = e + 1 := ⟨d - 1, by omega⟩
  exact w_m_made_d N e (by omega)
theorem dX12_medal_0 : decode cX12_medal 0 = .ok (.aload_n 0, 1) := by decide +kernel
theorem dX12_medal_1 : decode cX12_medal 1 = .ok (.iconst 0, 1) := by decide +kernel
theorem dX12_medal_2 : decode cX12_medal 2 = .ok (.putfield 99, 3) := by decide +kernel
theorem dX12_medal_5 : decode cX12_medal 5 = .ok (.aload_n 0, 1) := by decide +kernel
theorem dX12_medal_6 : decode cX12_medal 6 = .ok (.iload_n 1, 1) := by decide +kernel
theorem dX12_medal_7 : decode cX12_medal 7 = .ok (.iload_n 2, 1) := by decide +kernel
theorem dX12_medal_8 : decode cX12_medal 8 = .ok (.invokevirtual 310, 3) := by decide +kernel
theorem dX12_medal_11 : decode cX12_medal 11 = .ok (.ifCond .eq 11, 3) := by decide +kernel
theorem dX12_medal_14 : decode cX12_medal 14 = .ok (.aload_n 0, 1) := by decide +kernel
theorem dX12_medal_15 : decode cX12_medal 15 = .ok (.iload_n 3, 1) := by decide +kernel
theorem dX12_medal_16 : decode cX12_medal 16 = .ok (.invokevirtual 282, 3) := by decide +kernel
theorem dX12_medal_19 : decode cX12_medal 19 = .ok (.ifCond .ne 7, 3) := by decide +kernel
theorem dX12_medal_22 : decode cX12_medal 22 = .ok (.ldc_w 315, 3) := by decide +kernel
theorem dX12_medal_25 : decode cX12_medal 25 = .ok (.ireturn, 1) := by decide +kernel
theorem dX12_medal_26 : decode cX12_medal 26 = .ok (.aload_n 0, 1) := by decide +kernel
theorem dX12_medal_27 : decode cX12_medal 27 = .ok (.iload_n 1, 1) := by decide +kernel
theorem dX12_medal_28 : decode cX12_medal 28 = .ok (.iload_n 2, 1) := by decide +kernel
theorem dX12_medal_29 : decode cX12_medal 29 = .ok (.invokevirtual 316, 3) := by decide +kernel
theorem dX12_medal_32 : decode cX12_medal 32 = .ok (.aload_n 0, 1) := by decide +kernel
theorem dX12_medal_33 : decode cX12_medal 33 = .ok (.getfield 55, 3) := by decide +kernel
theorem dX12_medal_36 : decode cX12_medal 36 = .ok (.iload_n 3, 1) := by decide +kernel
theorem dX12_medal_37 : decode cX12_medal 37 = .ok (.baload, 1) := by decide +kernel
theorem dX12_medal_38 : decode cX12_medal 38 = .ok (.ifCond .eq 7, 3) := by decide +kernel
theorem dX12_medal_41 : decode cX12_medal 41 = .ok (.iconst 0, 1) := by decide +kernel
theorem dX12_medal_42 : decode cX12_medal 42 = .ok (.goto 10, 3) := by decide +kernel
theorem dX12_medal_45 : decode cX12_medal 45 = .ok (.aload_n 0, 1) := by decide +kernel
theorem dX12_medal_46 : decode cX12_medal 46 = .ok (.iload_n 3, 1) := by decide +kernel
theorem dX12_medal_47 : decode cX12_medal 47 = .ok (.invokevirtual 290, 3) := by decide +kernel
theorem dX12_medal_50 : decode cX12_medal 50 = .ok (.iconst 1, 1) := by decide +kernel
theorem dX12_medal_51 : decode cX12_medal 51 = .ok (.iadd, 1) := by decide +kernel
theorem dX12_medal_52 : decode cX12_medal 52 = .ok (.ireturn, 1) := by decide +kernel
def m_medal_22 (N : Nat) (w : aw_W) : Option (Int × aw_W) :=
  some ((-1000000), w)
theorem w_m_medal_22 {l : Launch} {K : aw_K} (N d : Nat) (hd : 129 ≤ d) : ∀ (w : aw_W) (y : Int) (v : aw_W), m_medal_22 N w = some (y, v) → aw_AW l K MX12_medal (d + 1) 22 [] [] w (some (.inl y), v) := by
  intro w y v h
  unfold m_medal_22 at h
  refine aw_ldcw (pc := 22) (x := (-1000000)) dX12_medal_22 cn_RX12_315 ⟨by decide, by decide⟩ ?_
  cases h
  exact aw_iret (pc := 25) rfl dX12_medal_25
def m_medal_52 (N : Nat) (s0 : Int) (w : aw_W) : Option (Int × aw_W) :=
  some (s0, w)
theorem w_m_medal_52 {l : Launch} {K : aw_K} (N d : Nat) (hd : 129 ≤ d) : ∀ (s0 : Int) (w : aw_W) (y : Int) (v : aw_W), m_medal_52 N s0 w = some (y, v) → aw_AW l K MX12_medal (d + 1) 52 [] [.inl s0] w (some (.inl y), v) := by
  intro s0 w y v h
  unfold m_medal_52 at h
  cases h
  exact aw_iret (pc := 52) rfl dX12_medal_52
def m_medal (N : Nat) (x1 x2 x3 : Int) (w : aw_W) : Option (Int × aw_W) :=
  aw_b2 (m_isRace N x1 x2 (aw_up w 49 0 0)) fun r1 w1 =>
    if r1 = 0 then
      m_medal_22 N w1
    else
      aw_b2 (m_isStriver N x3 w1) fun r2 w2 =>
        if r2 = 0 then
          m_medal_22 N w2
        else
          aw_b1 (m_run N x1 x2 w2) fun w3 =>
            if 0 ≤ x3 ∧ x3 < 6 then
              if (w3 60 x3.toNat) = 0 then
                aw_b2 (m_aheadOf N x3 w3) fun r4 w4 =>
                  m_medal_52 N (aw_w (r4 + 1)) w4
              else
                m_medal_52 N 0 w3
            else none
theorem w_m_medal_d {l : Launch} {K : aw_K} (N d : Nat) (hd : 129 ≤ d) : ∀ (x1 x2 x3 : Int) (w : aw_W) (y : Int) (v : aw_W), m_medal N x1 x2 x3 w = some (y, v) → aw_Met l K MX12_medal (d + 1) [.inr (.inr 49), .inl x1, .inl x2, .inl x3] w (some (.inl y), v) := by
  intro x1 x2 x3 w y v h
  unfold m_medal at h
  refine aw_enter rfl (Nat.le_of_ble_eq_true rfl) ?_
  show aw_AW l K MX12_medal (d + 1) 0 [(0, .inr (.inr 49)), (1, .inl x1), (2, .inl x2), (3, .inl x3)] [] w (some (.inl y), v)
  refine aw_aload_n (pc := 0) (q := 0) dX12_medal_0 rfl ?_
  refine aw_iconst (pc := 1) dX12_medal_1 ⟨by decide, by decide⟩ ?_
  refine aw_puti (pc := 2) dX12_medal_2 fp_RX12_99 (by decide) rfl rfl ?_
  refine aw_aload_n (pc := 5) (q := 0) dX12_medal_5 rfl ?_
  refine aw_iload_n (pc := 6) (q := 1) dX12_medal_6 rfl ?_
  refine aw_iload_n (pc := 7) (q := 2) dX12_medal_7 rfl ?_
  obtain ⟨r1, w1, h1, h⟩ := aw_b2s h
  refine aw_callV (pc := 8) (as := [.inl x1, .inl x2]) (st := []) (st' := [.inl r1]) dX12_medal_8 cv_RX12_310 (by decide) rfl rfl rfl rfl (Nat.le_of_ble_eq_true rfl) (w_m_isRace N d (by omega) _ _ _ _ _ h1) rfl ?_
  refine aw_if_eq (pc := 11) (tgt := 22) dX12_medal_11 (by decide) (fun hc => ?_) (fun hc => ?_)
  · rw [if_pos hc] at h
    exact aw_sel [] rfl (w_m_medal_22 N d hd  _ _ _ h)
  · rw [if_neg hc] at h
    refine aw_aload_n (pc := 14) (q := 0) dX12_medal_14 rfl ?_
    refine aw_iload_n (pc := 15) (q := 3) dX12_medal_15 rfl ?_
    obtain ⟨r2, w2, h2, h⟩ := aw_b2s h
    refine aw_callV (pc := 16) (as := [.inl x3]) (st := []) (st' := [.inl r2]) dX12_medal_16 cv_RX12_282 (by decide) rfl rfl rfl rfl (Nat.le_of_ble_eq_true rfl) (w_m_isStriver N d (by omega) _ _ _ _ h2) rfl ?_
    refine aw_if_ne (pc := 19) (tgt := 26) dX12_medal_19 (by decide) (fun hc => ?_) (fun hc => ?_)
    · rw [if_neg hc] at h
      refine aw_aload_n (pc := 26) (q := 0) dX12_medal_26 rfl ?_
      refine aw_iload_n (pc := 27) (q := 1) dX12_medal_27 rfl ?_
      refine aw_iload_n (pc := 28) (q := 2) dX12_medal_28 rfl ?_
      obtain ⟨w3, h3, h⟩ := aw_b1s h
      refine aw_callV (pc := 29) (as := [.inl x1, .inl x2]) (st := []) (st' := []) dX12_medal_29 cv_RX12_316 (by decide) rfl rfl rfl rfl (Nat.le_of_ble_eq_true rfl) (w_m_run N d (by omega) _ _ _ _ h3) rfl ?_
      refine aw_aload_n (pc := 32) (q := 0) dX12_medal_32 rfl ?_
      refine aw_getf (pc := 33) (v := .inr (.inr 60)) dX12_medal_33 fl_RX12_55 (by decide) rfl rfl rfl ?_
      refine aw_iload_n (pc := 36) (q := 3) dX12_medal_36 rfl ?_
      obtain ⟨hb, h⟩ := aw_cks h
      refine aw_zaldv (pc := 37) (v := w3 60 x3.toNat) dX12_medal_37 rfl hb.1 hb.2 rfl ?_
      refine aw_if_eq (pc := 38) (tgt := 45) dX12_medal_38 (by decide) (fun hc => ?_) (fun hc => ?_)
      · rw [if_pos hc] at h
        refine aw_aload_n (pc := 45) (q := 0) dX12_medal_45 rfl ?_
        refine aw_iload_n (pc := 46) (q := 3) dX12_medal_46 rfl ?_
        obtain ⟨r4, w4, h4, h⟩ := aw_b2s h
        refine aw_callV (pc := 47) (as := [.inl x3]) (st := []) (st' := [.inl r4]) dX12_medal_47 cv_RX12_290 (by decide) rfl rfl rfl rfl (Nat.le_of_ble_eq_true rfl) (w_m_aheadOf N d (by omega) _ _ _ _ h4) rfl ?_
        refine aw_iconst (pc := 50) dX12_medal_50 ⟨by decide, by decide⟩ ?_
        refine aw_iadd (pc := 51) dX12_medal_51 ?_
        exact aw_sel [] rfl (w_m_medal_52 N d hd  _ _ _ _ h)
      · rw [if_neg hc] at h
        refine aw_iconst (pc := 41) dX12_medal_41 ⟨by decide, by decide⟩ ?_
        refine aw_goto (pc := 42) (tgt := 52) dX12_medal_42 (by decide) ?_
        exact aw_sel [] rfl (w_m_medal_52 N d hd  _ _ _ _ h)
    · rw [if_pos hc] at h
      exact aw_sel [] rfl (w_m_medal_22 N d hd  _ _ _ h)
theorem w_m_medal {l : Launch} {K : aw_K} (N d : Nat) (hd : 130 ≤ d) : ∀ (x1 x2 x3 : Int) (w : aw_W) (y : Int) (v : aw_W), m_medal N x1 x2 x3 w = some (y, v) → aw_Met l K MX12_medal (d) [.inr (.inr 49), .inl x1, .inl x2, .inl x3] w (some (.inl y), v) := by
  obtain ⟨e, rfl⟩ : ∃ e, d = e + 1 := ⟨d - 1, by omega⟩
  exact w_m_medal_d N e (by omega)
theorem dX12_near_0 : decode cX12_near 0 = .ok (.aload_n 0, 1) := by decide +kernel
theorem dX12_near_1 : decode cX12_near 1 = .ok (.iconst 0, 1) := by decide +kernel
theorem dX12_near_2 : decode cX12_near 2 = .ok (.putfield 99, 3) := by decide +kernel
theorem dX12_near_5 : decode cX12_near 5 = .ok (.aload_n 0, 1) := by decide +kernel
theorem dX12_near_6 : decode cX12_near 6 = .ok (.iload_n 2, 1) := by decide +kernel
theorem dX12_near_7 : decode cX12_near 7 = .ok (.invokevirtual 282, 3) := by decide +kernel
theorem dX12_near_10 : decode cX12_near 10 = .ok (.ifCond .eq 11, 3) := by decide +kernel
theorem dX12_near_13 : decode cX12_near 13 = .ok (.aload_n 0, 1) := by decide +kernel
theorem dX12_near_14 : decode cX12_near 14 = .ok (.iload_n 1, 1) := by decide +kernel
theorem dX12_near_15 : decode cX12_near 15 = .ok (.invokevirtual 342, 3) := by decide +kernel
theorem dX12_near_18 : decode cX12_near 18 = .ok (.ifCond .ne 5, 3) := by decide +kernel
theorem dX12_near_21 : decode cX12_near 21 = .ok (.iconst (-1), 1) := by decide +kernel
theorem dX12_near_22 : decode cX12_near 22 = .ok (.ireturn, 1) := by decide +kernel
theorem dX12_near_23 : decode cX12_near 23 = .ok (.iconst 0, 1) := by decide +kernel
theorem dX12_near_24 : decode cX12_near 24 = .ok (.istore_n 3, 1) := by decide +kernel
theorem dX12_near_25 : decode cX12_near 25 = .ok (.iload_n 3, 1) := by decide +kernel
theorem dX12_near_26 : decode cX12_near 26 = .ok (.aload_n 0, 1) := by decide +kernel
theorem dX12_near_27 : decode cX12_near 27 = .ok (.getfield 43, 3) := by decide +kernel
theorem dX12_near_30 : decode cX12_near 30 = .ok (.iconst 4, 1) := by decide +kernel
theorem dX12_near_31 : decode cX12_near 31 = .ok (.iaload, 1) := by decide +kernel
theorem dX12_near_32 : decode cX12_near 32 = .ok (.if_icmp .gt 87, 3) := by decide +kernel
theorem dX12_near_35 : decode cX12_near 35 = .ok (.aload_n 0, 1) := by decide +kernel
theorem dX12_near_36 : decode cX12_near 36 = .ok (.getfield 72, 3) := by decide +kernel
theorem dX12_near_39 : decode cX12_near 39 = .ok (.iload_n 2, 1) := by decide +kernel
theorem dX12_near_40 : decode cX12_near 40 = .ok (.iaload, 1) := by decide +kernel
theorem dX12_near_41 : decode cX12_near 41 = .ok (.iload_n 3, 1) := by decide +kernel
theorem dX12_near_42 : decode cX12_near 42 = .ok (.isub, 1) := by decide +kernel
theorem dX12_near_43 : decode cX12_near 43 = .ok (.ifCond .lt 28, 3) := by decide +kernel
theorem dX12_near_46 : decode cX12_near 46 = .ok (.aload_n 0, 1) := by decide +kernel
theorem dX12_near_47 : decode cX12_near 47 = .ok (.iload_n 2, 1) := by decide +kernel
theorem dX12_near_48 : decode cX12_near 48 = .ok (.aload_n 0, 1) := by decide +kernel
theorem dX12_near_49 : decode cX12_near 49 = .ok (.getfield 72, 3) := by decide +kernel
theorem dX12_near_52 : decode cX12_near 52 = .ok (.iload_n 2, 1) := by decide +kernel
theorem dX12_near_53 : decode cX12_near 53 = .ok (.iaload, 1) := by decide +kernel
theorem dX12_near_54 : decode cX12_near 54 = .ok (.iload_n 3, 1) := by decide +kernel
theorem dX12_near_55 : decode cX12_near 55 = .ok (.isub, 1) := by decide +kernel
theorem dX12_near_56 : decode cX12_near 56 = .ok (.invokevirtual 439, 3) := by decide +kernel
theorem dX12_near_59 : decode cX12_near 59 = .ok (.ifCond .eq 12, 3) := by decide +kernel
theorem dX12_near_62 : decode cX12_near 62 = .ok (.aload_n 0, 1) := by decide +kernel
theorem dX12_near_63 : decode cX12_near 63 = .ok (.getfield 72, 3) := by decide +kernel
theorem dX12_near_66 : decode cX12_near 66 = .ok (.iload_n 2, 1) := by decide +kernel
theorem dX12_near_67 : decode cX12_near 67 = .ok (.iaload, 1) := by decide +kernel
theorem dX12_near_68 : decode cX12_near 68 = .ok (.iload_n 3, 1) := by decide +kernel
theorem dX12_near_69 : decode cX12_near 69 = .ok (.isub, 1) := by decide +kernel
theorem dX12_near_70 : decode cX12_near 70 = .ok (.ireturn, 1) := by decide +kernel
theorem dX12_near_71 : decode cX12_near 71 = .ok (.aload_n 0, 1) := by decide +kernel
theorem dX12_near_72 : decode cX12_near 72 = .ok (.getfield 72, 3) := by decide +kernel
theorem dX12_near_75 : decode cX12_near 75 = .ok (.iload_n 2, 1) := by decide +kernel
theorem dX12_near_76 : decode cX12_near 76 = .ok (.iaload, 1) := by decide +kernel
theorem dX12_near_77 : decode cX12_near 77 = .ok (.iload_n 3, 1) := by decide +kernel
theorem dX12_near_78 : decode cX12_near 78 = .ok (.iadd, 1) := by decide +kernel
theorem dX12_near_79 : decode cX12_near 79 = .ok (.aload_n 0, 1) := by decide +kernel
theorem dX12_near_80 : decode cX12_near 80 = .ok (.getfield 43, 3) := by decide +kernel
theorem dX12_near_83 : decode cX12_near 83 = .ok (.iconst 4, 1) := by decide +kernel
theorem dX12_near_84 : decode cX12_near 84 = .ok (.iaload, 1) := by decide +kernel
theorem dX12_near_85 : decode cX12_near 85 = .ok (.if_icmp .gt 28, 3) := by decide +kernel
theorem dX12_near_88 : decode cX12_near 88 = .ok (.aload_n 0, 1) := by decide +kernel
theorem dX12_near_89 : decode cX12_near 89 = .ok (.iload_n 2, 1) := by decide +kernel
theorem dX12_near_90 : decode cX12_near 90 = .ok (.aload_n 0, 1) := by decide +kernel
theorem dX12_near_91 : decode cX12_near 91 = .ok (.getfield 72, 3) := by decide +kernel
theorem dX12_near_94 : decode cX12_near 94 = .ok (.iload_n 2, 1) := by decide +kernel
theorem dX12_near_95 : decode cX12_near 95 = .ok (.iaload, 1) := by decide +kernel
theorem dX12_near_96 : decode cX12_near 96 = .ok (.iload_n 3, 1) := by decide +kernel
theorem dX12_near_97 : decode cX12_near 97 = .ok (.iadd, 1) := by decide +kernel
theorem dX12_near_98 : decode cX12_near 98 = .ok (.invokevirtual 439, 3) := by decide +kernel
theorem dX12_near_101 : decode cX12_near 101 = .ok (.ifCond .eq 12, 3) := by decide +kernel
theorem dX12_near_104 : decode cX12_near 104 = .ok (.aload_n 0, 1) := by decide +kernel
theorem dX12_near_105 : decode cX12_near 105 = .ok (.getfield 72, 3) := by decide +kernel
theorem dX12_near_108 : decode cX12_near 108 = .ok (.iload_n 2, 1) := by decide +kernel
theorem dX12_near_109 : decode cX12_near 109 = .ok (.iaload, 1) := by decide +kernel
theorem dX12_near_110 : decode cX12_near 110 = .ok (.iload_n 3, 1) := by decide +kernel
theorem dX12_near_111 : decode cX12_near 111 = .ok (.iadd, 1) := by decide +kernel
theorem dX12_near_112 : decode cX12_near 112 = .ok (.ireturn, 1) := by decide +kernel
theorem dX12_near_113 : decode cX12_near 113 = .ok (.iinc 3 1, 3) := by decide +kernel
theorem dX12_near_116 : decode cX12_near 116 = .ok (.goto (-91), 3) := by decide +kernel
theorem dX12_near_119 : decode cX12_near 119 = .ok (.iconst (-1), 1) := by decide +kernel
theorem dX12_near_120 : decode cX12_near 120 = .ok (.ireturn, 1) := by decide +kernel
def m_near_21 (N : Nat) (w : aw_W) : Option (Int × aw_W) :=
  some ((-1), w)
theorem w_m_near_21 {l : Launch} {K : aw_K} (N d : Nat) (hd : 3 ≤ d) : ∀ (w : aw_W) (y : Int) (v : aw_W), m_near_21 N w = some (y, v) → aw_AW l K MX12_near (d + 1) 21 [] [] w (some (.inl y), v) := by
  intro w y v h
  unfold m_near_21 at h
  refine aw_iconst (pc := 21) dX12_near_21 ⟨by decide, by decide⟩ ?_
  cases h
  exact aw_iret (pc := 22) rfl dX12_near_22
def m_near_119 (N : Nat) (w : aw_W) : Option (Int × aw_W) :=
  some ((-1), w)
theorem w_m_near_119 {l : Launch} {K : aw_K} (N d : Nat) (hd : 3 ≤ d) : ∀ (w : aw_W) (y : Int) (v : aw_W), m_near_119 N w = some (y, v) → aw_AW l K MX12_near (d + 1) 119 [] [] w (some (.inl y), v) := by
  intro w y v h
  unfold m_near_119 at h
  refine aw_iconst (pc := 119) dX12_near_119 ⟨by decide, by decide⟩ ?_
  cases h
  exact aw_iret (pc := 120) rfl dX12_near_120
def m_near_113 (N : Nat) (k25 : Int → Int → aw_W → Option (Int × aw_W)) (x2 x3 : Int) (w : aw_W) : Option (Int × aw_W) :=
  k25 x2 (aw_w (x3 + 1)) w
theorem w_m_near_113 {l : Launch} {K : aw_K} (N d : Nat) (hd : 3 ≤ d) (k25 : Int → Int → aw_W → Option (Int × aw_W)) (hk25 : ∀ (x2 x3 : Int) (w : aw_W) (y : Int) (v : aw_W), k25 x2 x3 w = some (y, v) → aw_AW l K MX12_near (d + 1) 25 [(0, .inr (.inr 49)), (2, .inl x2), (3, .inl x3)] [] w (some (.inl y), v)) : ∀ (x2 x3 : Int) (w : aw_W) (y : Int) (v : aw_W), m_near_113 N k25 x2 x3 w = some (y, v) → aw_AW l K MX12_near (d + 1) 113 [(0, .inr (.inr 49)), (2, .inl x2), (3, .inl x3)] [] w (some (.inl y), v) := by
  intro x2 x3 w y v h
  unfold m_near_113 at h
  refine aw_iinc (pc := 113) (q := 2) (ls' := [(3, .inl (aw_w (x3 + 1))), (0, .inr (.inr 49)), (2, .inl x2)]) dX12_near_113 rfl (by decide) rfl ?_
  refine aw_goto (pc := 116) (tgt := 25) dX12_near_116 (by decide) ?_
  exact aw_sel [1, 2, 0] rfl (hk25 _ _ _ _ _ h)
def m_near_104 (N : Nat) (x2 x3 : Int) (w : aw_W) : Option (Int × aw_W) :=
  if 0 ≤ x2 ∧ x2 < 6 then
    some (aw_w ((w 64 x2.toNat) + x3), w)
  else none
theorem w_m_near_104 {l : Launch} {K : aw_K} (N d : Nat) (hd : 3 ≤ d) : ∀ (x2 x3 : Int) (w : aw_W) (y : Int) (v : aw_W), m_near_104 N x2 x3 w = some (y, v) → aw_AW l K MX12_near (d + 1) 104 [(0, .inr (.inr 49)), (2, .inl x2), (3, .inl x3)] [] w (some (.inl y), v) := by
  intro x2 x3 w y v h
  unfold m_near_104 at h
  refine aw_aload_n (pc := 104) (q := 0) dX12_near_104 rfl ?_
  refine aw_getf (pc := 105) (v := .inr (.inr 64)) dX12_near_105 fl_RX12_72 (by decide) rfl rfl rfl ?_
  refine aw_iload_n (pc := 108) (q := 1) dX12_near_108 rfl ?_
  obtain ⟨hb, h⟩ := aw_cks h
  refine aw_ialdv (pc := 109) (v := w 64 x2.toNat) dX12_near_109 rfl hb.1 hb.2 rfl ?_
  refine aw_iload_n (pc := 110) (q := 2) dX12_near_110 rfl ?_
  refine aw_iadd (pc := 111) dX12_near_111 ?_
  cases h
  exact aw_iret (pc := 112) rfl dX12_near_112
def m_near_71 (N : Nat) (k25 : Int → Int → aw_W → Option (Int × aw_W)) (x2 x3 : Int) (w : aw_W) : Option (Int × aw_W) :=
  if 0 ≤ x2 ∧ x2 < 6 then
    if (w 56 4) < (aw_w ((w 64 x2.toNat) + x3)) then
      m_near_113 N k25 x2 x3 w
    else
      if 0 ≤ x2 ∧ x2 < 6 then
        aw_b2 (m_hasBy N x2 (aw_w ((w 64 x2.toNat) + x3)) w) fun r1 w1 =>
          if r1 = 0 then
            m_near_113 N k25 x2 x3 w1
          else
            m_near_104 N x2 x3 w1
      else none
  else none
theorem w_m_near_71 {l : Launch} {K : aw_K} (N d : Nat) (hd : 3 ≤ d) (k25 : Int → Int → aw_W → Option (Int × aw_W)) (hk25 : ∀ (x2 x3 : Int) (w : aw_W) (y : Int) (v : aw_W), k25 x2 x3 w = some (y, v) → aw_AW l K MX12_near (d + 1) 25 [(0, .inr (.inr 49)), (2, .inl x2), (3, .inl x3)] [] w (some (.inl y), v)) : ∀ (x2 x3 : Int) (w : aw_W) (y : Int) (v : aw_W), m_near_71 N k25 x2 x3 w = some (y, v) → aw_AW l K MX12_near (d + 1) 71 [(0, .inr (.inr 49)), (2, .inl x2), (3, .inl x3)] [] w (some (.inl y), v) := by
  intro x2 x3 w y v h
  unfold m_near_71 at h
  refine aw_aload_n (pc := 71) (q := 0) dX12_near_71 rfl ?_
  refine aw_getf (pc := 72) (v := .inr (.inr 64)) dX12_near_72 fl_RX12_72 (by decide) rfl rfl rfl ?_
  refine aw_iload_n (pc := 75) (q := 1) dX12_near_75 rfl ?_
  obtain ⟨hb, h⟩ := aw_cks h
  refine aw_ialdv (pc := 76) (v := w 64 x2.toNat) dX12_near_76 rfl hb.1 hb.2 rfl ?_
  refine aw_iload_n (pc := 77) (q := 2) dX12_near_77 rfl ?_
  refine aw_iadd (pc := 78) dX12_near_78 ?_
  refine aw_aload_n (pc := 79) (q := 0) dX12_near_79 rfl ?_
  refine aw_getf (pc := 80) (v := .inr (.inr 56)) dX12_near_80 fl_RX12_43 (by decide) rfl rfl rfl ?_
  refine aw_iconst (pc := 83) dX12_near_83 ⟨by decide, by decide⟩ ?_
  refine aw_ialdv (pc := 84) (v := w 56 4) dX12_near_84 rfl (by decide) (by decide) rfl ?_
  refine aw_icmp_gt (pc := 85) (tgt := 113) dX12_near_85 (by decide) (fun hc => ?_) (fun hc => ?_)
  · rw [if_pos hc] at h
    exact aw_sel [0, 1, 2] rfl (w_m_near_113 N d hd  _ hk25 _ _ _ _ _ h)
  · rw [if_neg hc] at h
    refine aw_aload_n (pc := 88) (q := 0) dX12_near_88 rfl ?_
    refine aw_iload_n (pc := 89) (q := 1) dX12_near_89 rfl ?_
    refine aw_aload_n (pc := 90) (q := 0) dX12_near_90 rfl ?_
    refine aw_getf (pc := 91) (v := .inr (.inr 64)) dX12_near_91 fl_RX12_72 (by decide) rfl rfl rfl ?_
    refine aw_iload_n (pc := 94) (q := 1) dX12_near_94 rfl ?_
    obtain ⟨hb, h⟩ := aw_cks h
    refine aw_ialdv (pc := 95) (v := w 64 x2.toNat) dX12_near_95 rfl hb.1 hb.2 rfl ?_
    refine aw_iload_n (pc := 96) (q := 2) dX12_near_96 rfl ?_
    refine aw_iadd (pc := 97) dX12_near_97 ?_
    obtain ⟨r1, w1, h1, h⟩ := aw_b2s h
    refine aw_callV (pc := 98) (as := [.inl x2, .inl (aw_w ((w 64 x2.toNat) + x3))]) (st := []) (st' := [.inl r1]) dX12_near_98 cv_RX12_439 (by decide) rfl rfl rfl rfl (Nat.le_of_ble_eq_true rfl) (w_m_hasBy N d (by omega) _ _ _ _ _ h1) rfl ?_
    refine aw_if_eq (pc := 101) (tgt := 113) dX12_near_101 (by decide) (fun hc => ?_) (fun hc => ?_)
    · rw [if_pos hc] at h
      exact aw_sel [0, 1, 2] rfl (w_m_near_113 N d hd  _ hk25 _ _ _ _ _ h)
    · rw [if_neg hc] at h
      exact aw_sel [0, 1, 2] rfl (w_m_near_104 N d hd  _ _ _ _ _ h)
def m_near_62 (N : Nat) (x2 x3 : Int) (w : aw_W) : Option (Int × aw_W) :=
  if 0 ≤ x2 ∧ x2 < 6 then
    some (aw_w ((w 64 x2.toNat) - x3), w)
  else none
theorem w_m_near_62 {l : Launch} {K : aw_K} (N d : Nat) (hd : 3 ≤ d) : ∀ (x2 x3 : Int) (w : aw_W) (y : Int) (v : aw_W), m_near_62 N x2 x3 w = some (y, v) → aw_AW l K MX12_near (d + 1) 62 [(0, .inr (.inr 49)), (2, .inl x2), (3, .inl x3)] [] w (some (.inl y), v) := by
  intro x2 x3 w y v h
  unfold m_near_62 at h
  refine aw_aload_n (pc := 62) (q := 0) dX12_near_62 rfl ?_
  refine aw_getf (pc := 63) (v := .inr (.inr 64)) dX12_near_63 fl_RX12_72 (by decide) rfl rfl rfl ?_
  refine aw_iload_n (pc := 66) (q := 1) dX12_near_66 rfl ?_
  obtain ⟨hb, h⟩ := aw_cks h
  refine aw_ialdv (pc := 67) (v := w 64 x2.toNat) dX12_near_67 rfl hb.1 hb.2 rfl ?_
  refine aw_iload_n (pc := 68) (q := 2) dX12_near_68 rfl ?_
  refine aw_isub (pc := 69) dX12_near_69 ?_
  cases h
  exact aw_iret (pc := 70) rfl dX12_near_70
def m_near_25 (N : Nat) : Nat → Int → Int → aw_W → Option (Int × aw_W)
  | 0, _, _, _ => none
  | n + 1, x2, x3, w =>
    if (w 56 4) < x3 then
      m_near_119 N w
    else
      if 0 ≤ x2 ∧ x2 < 6 then
        if (aw_w ((w 64 x2.toNat) - x3)) < 0 then
          m_near_71 N (m_near_25 N n) x2 x3 w
        else
          if 0 ≤ x2 ∧ x2 < 6 then
            aw_b2 (m_hasBy N x2 (aw_w ((w 64 x2.toNat) - x3)) w) fun r1 w1 =>
              if r1 = 0 then
                m_near_71 N (m_near_25 N n) x2 x3 w1
              else
                m_near_62 N x2 x3 w1
          else none
      else none
theorem w_m_near_25 {l : Launch} {K : aw_K} (N d : Nat) (hd : 3 ≤ d) : ∀ (n : Nat) (x2 x3 : Int) (w : aw_W) (y : Int) (v : aw_W), m_near_25 N n x2 x3 w = some (y, v) → aw_AW l K MX12_near (d + 1) 25 [(0, .inr (.inr 49)), (2, .inl x2), (3, .inl x3)] [] w (some (.inl y), v) := by
  intro n
  induction n with
  | zero => intro x2 x3 w y v h; rw [m_near_25] at h; cases h
  | succ n ih =>
    intro x2 x3 w y v h
    rw [m_near_25] at h
    refine aw_iload_n (pc := 25) (q := 2) dX12_near_25 rfl ?_
    refine aw_aload_n (pc := 26) (q := 0) dX12_near_26 rfl ?_
    refine aw_getf (pc := 27) (v := .inr (.inr 56)) dX12_near_27 fl_RX12_43 (by decide) rfl rfl rfl ?_
    refine aw_iconst (pc := 30) dX12_near_30 ⟨by decide, by decide⟩ ?_
    refine aw_ialdv (pc := 31) (v := w 56 4) dX12_near_31 rfl (by decide) (by decide) rfl ?_
    refine aw_icmp_gt (pc := 32) (tgt := 119) dX12_near_32 (by decide) (fun hc => ?_) (fun hc => ?_)
    · rw [if_pos hc] at h
      exact aw_sel [] rfl (w_m_near_119 N d hd  _ _ _ h)
    · rw [if_neg hc] at h
      refine aw_aload_n (pc := 35) (q := 0) dX12_near_35 rfl ?_
      refine aw_getf (pc := 36) (v := .inr (.inr 64)) dX12_near_36 fl_RX12_72 (by decide) rfl rfl rfl ?_
      refine aw_iload_n (pc := 39) (q := 1) dX12_near_39 rfl ?_
      obtain ⟨hb, h⟩ := aw_cks h
      refine aw_ialdv (pc := 40) (v := w 64 x2.toNat) dX12_near_40 rfl hb.1 hb.2 rfl ?_
      refine aw_iload_n (pc := 41) (q := 2) dX12_near_41 rfl ?_
      refine aw_isub (pc := 42) dX12_near_42 ?_
      refine aw_if_lt (pc := 43) (tgt := 71) dX12_near_43 (by decide) (fun hc => ?_) (fun hc => ?_)
      · rw [if_pos hc] at h
        exact aw_sel [0, 1, 2] rfl (w_m_near_71 N d hd  _ ih _ _ _ _ _ h)
      · rw [if_neg hc] at h
        refine aw_aload_n (pc := 46) (q := 0) dX12_near_46 rfl ?_
        refine aw_iload_n (pc := 47) (q := 1) dX12_near_47 rfl ?_
        refine aw_aload_n (pc := 48) (q := 0) dX12_near_48 rfl ?_
        refine aw_getf (pc := 49) (v := .inr (.inr 64)) dX12_near_49 fl_RX12_72 (by decide) rfl rfl rfl ?_
        refine aw_iload_n (pc := 52) (q := 1) dX12_near_52 rfl ?_
        obtain ⟨hb, h⟩ := aw_cks h
        refine aw_ialdv (pc := 53) (v := w 64 x2.toNat) dX12_near_53 rfl hb.1 hb.2 rfl ?_
        refine aw_iload_n (pc := 54) (q := 2) dX12_near_54 rfl ?_
        refine aw_isub (pc := 55) dX12_near_55 ?_
        obtain ⟨r1, w1, h1, h⟩ := aw_b2s h
        refine aw_callV (pc := 56) (as := [.inl x2, .inl (aw_w ((w 64 x2.toNat) - x3))]) (st := []) (st' := [.inl r1]) dX12_near_56 cv_RX12_439 (by decide) rfl rfl rfl rfl (Nat.le_of_ble_eq_true rfl) (w_m_hasBy N d (by omega) _ _ _ _ _ h1) rfl ?_
        refine aw_if_eq (pc := 59) (tgt := 71) dX12_near_59 (by decide) (fun hc => ?_) (fun hc => ?_)
        · rw [if_pos hc] at h
          exact aw_sel [0, 1, 2] rfl (w_m_near_71 N d hd  _ ih _ _ _ _ _ h)
        · rw [if_neg hc] at h
          exact aw_sel [0, 1, 2] rfl (w_m_near_62 N d hd  _ _ _ _ _ h)
def m_near (N : Nat) (x1 x2 : Int) (w : aw_W) : Option (Int × aw_W) :=
  aw_b2 (m_isStriver N x2 (aw_up w 49 0 0)) fun r1 w1 =>
    if r1 = 0 then
      m_near_21 N w1
    else
      aw_b2 (m_lay N x1 w1) fun r2 w2 =>
        if r2 = 0 then
          m_near_21 N w2
        else
          m_near_25 N N x2 0 w2
theorem w_m_near_d {l : Launch} {K : aw_K} (N d : Nat) (hd : 3 ≤ d) : ∀ (x1 x2 : Int) (w : aw_W) (y : Int) (v : aw_W), m_near N x1 x2 w = some (y, v) → aw_Met l K MX12_near (d + 1) [.inr (.inr 49), .inl x1, .inl x2] w (some (.inl y), v) := by
  intro x1 x2 w y v h
  unfold m_near at h
  refine aw_enter rfl (Nat.le_of_ble_eq_true rfl) ?_
  show aw_AW l K MX12_near (d + 1) 0 [(0, .inr (.inr 49)), (1, .inl x1), (2, .inl x2)] [] w (some (.inl y), v)
  refine aw_aload_n (pc := 0) (q := 0) dX12_near_0 rfl ?_
  refine aw_iconst (pc := 1) dX12_near_1 ⟨by decide, by decide⟩ ?_
  refine aw_puti (pc := 2) dX12_near_2 fp_RX12_99 (by decide) rfl rfl ?_
  refine aw_aload_n (pc := 5) (q := 0) dX12_near_5 rfl ?_
  refine aw_iload_n (pc := 6) (q := 2) dX12_near_6 rfl ?_
  obtain ⟨r1, w1, h1, h⟩ := aw_b2s h
  refine aw_callV (pc := 7) (as := [.inl x2]) (st := []) (st' := [.inl r1]) dX12_near_7 cv_RX12_282 (by decide) rfl rfl rfl rfl (Nat.le_of_ble_eq_true rfl) (w_m_isStriver N d (by omega) _ _ _ _ h1) rfl ?_
  refine aw_if_eq (pc := 10) (tgt := 21) dX12_near_10 (by decide) (fun hc => ?_) (fun hc => ?_)
  · rw [if_pos hc] at h
    exact aw_sel [] rfl (w_m_near_21 N d hd  _ _ _ h)
  · rw [if_neg hc] at h
    refine aw_aload_n (pc := 13) (q := 0) dX12_near_13 rfl ?_
    refine aw_iload_n (pc := 14) (q := 1) dX12_near_14 rfl ?_
    obtain ⟨r2, w2, h2, h⟩ := aw_b2s h
    refine aw_callV (pc := 15) (as := [.inl x1]) (st := []) (st' := [.inl r2]) dX12_near_15 cv_RX12_342 (by decide) rfl rfl rfl rfl (Nat.le_of_ble_eq_true rfl) (w_m_lay N d (by omega) _ _ _ _ h2) rfl ?_
    refine aw_if_ne (pc := 18) (tgt := 23) dX12_near_18 (by decide) (fun hc => ?_) (fun hc => ?_)
    · rw [if_neg hc] at h
      refine aw_iconst (pc := 23) dX12_near_23 ⟨by decide, by decide⟩ ?_
      refine aw_istore_n (pc := 24) (ls' := [(3, .inl 0), (0, .inr (.inr 49)), (1, .inl x1), (2, .inl x2)]) dX12_near_24 (by decide) rfl ?_
      exact aw_sel [1, 3, 0] rfl (w_m_near_25 N d hd  N _ _ _ _ _ h)
    · rw [if_pos hc] at h
      exact aw_sel [] rfl (w_m_near_21 N d hd  _ _ _ h)
theorem w_m_near {l : Launch} {K : aw_K} (N d : Nat) (hd : 4 ≤ d) : ∀ (x1 x2 : Int) (w : aw_W) (y : Int) (v : aw_W), m_near N x1 x2 w = some (y, v) → aw_Met l K MX12_near (d) [.inr (.inr 49), .inl x1, .inl x2] w (some (.inl y), v) := by
  obtain ⟨e, rfl⟩ : ∃ e, d = e + 1 := ⟨d - 1, by omega⟩
  exact w_m_near_d N e (by omega)
theorem dX12_often_0 : decode cX12_often 0 = .ok (.aload_n 0, 1) := by decide +kernel
theorem dX12_often_1 : decode cX12_often 1 = .ok (.iconst 0, 1) := by decide +kernel
theorem dX12_often_2 : decode cX12_often 2 = .ok (.putfield 99, 3) := by decide +kernel
theorem dX12_often_5 : decode cX12_often 5 = .ok (.aload_n 0, 1) := by decide +kernel
theorem dX12_often_6 : decode cX12_often 6 = .ok (.iload_n 1, 1) := by decide +kernel
theorem dX12_often_7 : decode cX12_often 7 = .ok (.invokevirtual 282, 3) := by decide +kernel
theorem dX12_often_10 : decode cX12_often 10 = .ok (.ifCond .ne 5, 3) := by decide +kernel
theorem dX12_often_13 : decode cX12_often 13 = .ok (.iconst (-1), 1) := by decide +kernel
theorem dX12_often_14 : decode cX12_often 14 = .ok (.ireturn, 1) := by decide +kernel
theorem dX12_often_15 : decode cX12_often 15 = .ok (.iconst 0, 1) := by decide +kernel
theorem dX12_often_16 : decode cX12_often 16 = .ok (.istore_n 2, 1) := by decide +kernel
theorem dX12_often_17 : decode cX12_often 17 = .ok (.iconst 0, 1) := by decide +kernel
theorem dX12_often_18 : decode cX12_often 18 = .ok (.istore_n 3, 1) := by decide +kernel
theorem dX12_often_19 : decode cX12_often 19 = .ok (.iload_n 3, 1) := by decide +kernel
theorem dX12_often_20 : decode cX12_often 20 = .ok (.aload_n 0, 1) := by decide +kernel
theorem dX12_often_21 : decode cX12_often 21 = .ok (.getfield 273, 3) := by decide +kernel
theorem dX12_often_24 : decode cX12_often 24 = .ok (.if_icmp .ge 30, 3) := by decide +kernel
theorem dX12_often_27 : decode cX12_often 27 = .ok (.aload_n 0, 1) := by decide +kernel
theorem dX12_often_28 : decode cX12_often 28 = .ok (.iload_n 3, 1) := by decide +kernel
theorem dX12_often_29 : decode cX12_often 29 = .ok (.invokevirtual 421, 3) := by decide +kernel
theorem dX12_often_32 : decode cX12_often 32 = .ok (.iload_n 2, 1) := by decide +kernel
theorem dX12_often_33 : decode cX12_often 33 = .ok (.aload_n 0, 1) := by decide +kernel
theorem dX12_often_34 : decode cX12_often 34 = .ok (.invokevirtual 320, 3) := by decide +kernel
theorem dX12_often_37 : decode cX12_often 37 = .ok (.iload_n 1, 1) := by decide +kernel
theorem dX12_often_38 : decode cX12_often 38 = .ok (.if_icmp .ne 7, 3) := by decide +kernel
theorem dX12_often_41 : decode cX12_often 41 = .ok (.iconst 1, 1) := by decide +kernel
theorem dX12_often_42 : decode cX12_often 42 = .ok (.goto 4, 3) := by decide +kernel
theorem dX12_often_45 : decode cX12_often 45 = .ok (.iconst 0, 1) := by decide +kernel
theorem dX12_often_46 : decode cX12_often 46 = .ok (.iadd, 1) := by decide +kernel
theorem dX12_often_47 : decode cX12_often 47 = .ok (.istore_n 2, 1) := by decide +kernel
theorem dX12_often_48 : decode cX12_often 48 = .ok (.iinc 3 1, 3) := by decide +kernel
theorem dX12_often_51 : decode cX12_often 51 = .ok (.goto (-32), 3) := by decide +kernel
theorem dX12_often_54 : decode cX12_often 54 = .ok (.iload_n 2, 1) := by decide +kernel
theorem dX12_often_55 : decode cX12_often 55 = .ok (.ireturn, 1) := by decide +kernel
def m_often_54 (N : Nat) (x2 : Int) (w : aw_W) : Option (Int × aw_W) :=
  some (x2, w)
theorem w_m_often_54 {l : Launch} {K : aw_K} (N d : Nat) (hd : 2 ≤ d) : ∀ (x2 : Int) (w : aw_W) (y : Int) (v : aw_W), m_often_54 N x2 w = some (y, v) → aw_AW l K MX12_often (d + 1) 54 [(2, .inl x2)] [] w (some (.inl y), v) := by
  intro x2 w y v h
  unfold m_often_54 at h
  refine aw_iload_n (pc := 54) (q := 0) dX12_often_54 rfl ?_
  cases h
  exact aw_iret (pc := 55) rfl dX12_often_55
def m_often_46 (N : Nat) (k19 : Int → Int → Int → aw_W → Option (Int × aw_W)) (x1 x3 s0 s1 : Int) (w : aw_W) : Option (Int × aw_W) :=
  k19 x1 (aw_w (s1 + s0)) (aw_w (x3 + 1)) w
theorem w_m_often_46 {l : Launch} {K : aw_K} (N d : Nat) (hd : 2 ≤ d) (k19 : Int → Int → Int → aw_W → Option (Int × aw_W)) (hk19 : ∀ (x1 x2 x3 : Int) (w : aw_W) (y : Int) (v : aw_W), k19 x1 x2 x3 w = some (y, v) → aw_AW l K MX12_often (d + 1) 19 [(0, .inr (.inr 49)), (1, .inl x1), (2, .inl x2), (3, .inl x3)] [] w (some (.inl y), v)) : ∀ (x1 x3 s0 s1 : Int) (w : aw_W) (y : Int) (v : aw_W), m_often_46 N k19 x1 x3 s0 s1 w = some (y, v) → aw_AW l K MX12_often (d + 1) 46 [(0, .inr (.inr 49)), (1, .inl x1), (3, .inl x3)] [.inl s0, .inl s1] w (some (.inl y), v) := by
  intro x1 x3 s0 s1 w y v h
  unfold m_often_46 at h
  refine aw_iadd (pc := 46) dX12_often_46 ?_
  refine aw_istore_n (pc := 47) (ls' := [(2, .inl (aw_w (s1 + s0))), (0, .inr (.inr 49)), (1, .inl x1), (3, .inl x3)]) dX12_often_47 (by decide) rfl ?_
  refine aw_iinc (pc := 48) (q := 3) (ls' := [(3, .inl (aw_w (x3 + 1))), (2, .inl (aw_w (s1 + s0))), (0, .inr (.inr 49)), (1, .inl x1)]) dX12_often_48 rfl (by decide) rfl ?_
  refine aw_goto (pc := 51) (tgt := 19) dX12_often_51 (by decide) ?_
  exact aw_sel [2, 3, 1, 0] rfl (hk19 _ _ _ _ _ _ h)
def m_often_19 (N : Nat) : Nat → Int → Int → Int → aw_W → Option (Int × aw_W)
  | 0, _, _, _, _ => none
  | n + 1, x1, x2, x3, w =>
    if (w 49 43) ≤ x3 then
      m_often_54 N x2 w
    else
      aw_b1 (m_layBooked N x3 w) fun w1 =>
        aw_b2 (m_winner N w1) fun r2 w2 =>
          if r2 = x1 then
            m_often_46 N (m_often_19 N n) x1 x3 1 x2 w2
          else
            m_often_46 N (m_often_19 N n) x1 x3 0 x2 w2
theorem w_m_often_19 {l : Launch} {K : aw_K} (N d : Nat) (hd : 2 ≤ d) : ∀ (n : Nat) (x1 x2 x3 : Int) (w : aw_W) (y : Int) (v : aw_W), m_often_19 N n x1 x2 x3 w = some (y, v) → aw_AW l K MX12_often (d + 1) 19 [(0, .inr (.inr 49)), (1, .inl x1), (2, .inl x2), (3, .inl x3)] [] w (some (.inl y), v) := by
  intro n
  induction n with
  | zero => intro x1 x2 x3 w y v h; rw [m_often_19] at h; cases h
  | succ n ih =>
    intro x1 x2 x3 w y v h
    rw [m_often_19] at h
    refine aw_iload_n (pc := 19) (q := 3) dX12_often_19 rfl ?_
    refine aw_aload_n (pc := 20) (q := 0) dX12_often_20 rfl ?_
    refine aw_getf (pc := 21) (v := .inl (w 49 43)) dX12_often_21 fl_RX12_273 (by decide) rfl rfl rfl ?_
    refine aw_icmp_ge (pc := 24) (tgt := 54) dX12_often_24 (by decide) (fun hc => ?_) (fun hc => ?_)
    · rw [if_pos hc] at h
      exact aw_sel [2] rfl (w_m_often_54 N d hd  _ _ _ _ h)
    · rw [if_neg hc] at h
      refine aw_aload_n (pc := 27) (q := 0) dX12_often_27 rfl ?_
      refine aw_iload_n (pc := 28) (q := 3) dX12_often_28 rfl ?_
      obtain ⟨w1, h1, h⟩ := aw_b1s h
      refine aw_callV (pc := 29) (as := [.inl x3]) (st := []) (st' := []) dX12_often_29 cv_RX12_421 (by decide) rfl rfl rfl rfl (Nat.le_of_ble_eq_true rfl) (w_m_layBooked N d (by omega) _ _ _ h1) rfl ?_
      refine aw_iload_n (pc := 32) (q := 2) dX12_often_32 rfl ?_
      refine aw_aload_n (pc := 33) (q := 0) dX12_often_33 rfl ?_
      obtain ⟨r2, w2, h2, h⟩ := aw_b2s h
      refine aw_callV (pc := 34) (as := []) (st := [.inl x2]) (st' := [.inl r2, .inl x2]) dX12_often_34 cv_RX12_320 (by decide) rfl rfl rfl rfl (Nat.le_of_ble_eq_true rfl) (w_m_winner N d (by omega) _ _ _ h2) rfl ?_
      refine aw_iload_n (pc := 37) (q := 1) dX12_often_37 rfl ?_
      refine aw_icmp_ne (pc := 38) (tgt := 45) dX12_often_38 (by decide) (fun hc => ?_) (fun hc => ?_)
      · rw [if_neg hc] at h
        refine aw_iconst (pc := 45) dX12_often_45 ⟨by decide, by decide⟩ ?_
        exact aw_sel [0, 1, 3] rfl (w_m_often_46 N d hd  _ ih _ _ _ _ _ _ _ h)
      · rw [if_pos hc] at h
        refine aw_iconst (pc := 41) dX12_often_41 ⟨by decide, by decide⟩ ?_
        refine aw_goto (pc := 42) (tgt := 46) dX12_often_42 (by decide) ?_
        exact aw_sel [0, 1, 3] rfl (w_m_often_46 N d hd  _ ih _ _ _ _ _ _ _ h)
def m_often (N : Nat) (x1 : Int) (w : aw_W) : Option (Int × aw_W) :=
  aw_b2 (m_isStriver N x1 (aw_up w 49 0 0)) fun r1 w1 =>
    if r1 = 0 then
      some ((-1), w1)
    else
      m_often_19 N N x1 0 0 w1
theorem w_m_often_d {l : Launch} {K : aw_K} (N d : Nat) (hd : 2 ≤ d) : ∀ (x1 : Int) (w : aw_W) (y : Int) (v : aw_W), m_often N x1 w = some (y, v) → aw_Met l K MX12_often (d + 1) [.inr (.inr 49), .inl x1] w (some (.inl y), v) := by
  intro x1 w y v h
  unfold m_often at h
  refine aw_enter rfl (Nat.le_of_ble_eq_true rfl) ?_
  show aw_AW l K MX12_often (d + 1) 0 [(0, .inr (.inr 49)), (1, .inl x1)] [] w (some (.inl y), v)
  refine aw_aload_n (pc := 0) (q := 0) dX12_often_0 rfl ?_
  refine aw_iconst (pc := 1) dX12_often_1 ⟨by decide, by decide⟩ ?_
  refine aw_puti (pc := 2) dX12_often_2 fp_RX12_99 (by decide) rfl rfl ?_
  refine aw_aload_n (pc := 5) (q := 0) dX12_often_5 rfl ?_
  refine aw_iload_n (pc := 6) (q := 1) dX12_often_6 rfl ?_
  obtain ⟨r1, w1, h1, h⟩ := aw_b2s h
  refine aw_callV (pc := 7) (as := [.inl x1]) (st := []) (st' := [.inl r1]) dX12_often_7 cv_RX12_282 (by decide) rfl rfl rfl rfl (Nat.le_of_ble_eq_true rfl) (w_m_isStriver N d (by omega) _ _ _ _ h1) rfl ?_
  refine aw_if_ne (pc := 10) (tgt := 15) dX12_often_10 (by decide) (fun hc => ?_) (fun hc => ?_)
  · rw [if_neg hc] at h
    refine aw_iconst (pc := 15) dX12_often_15 ⟨by decide, by decide⟩ ?_
    refine aw_istore_n (pc := 16) (ls' := [(2, .inl 0), (0, .inr (.inr 49)), (1, .inl x1)]) dX12_often_16 (by decide) rfl ?_
    refine aw_iconst (pc := 17) dX12_often_17 ⟨by decide, by decide⟩ ?_
    refine aw_istore_n (pc := 18) (ls' := [(3, .inl 0), (2, .inl 0), (0, .inr (.inr 49)), (1, .inl x1)]) dX12_often_18 (by decide) rfl ?_
    exact aw_sel [2, 3, 1, 0] rfl (w_m_often_19 N d hd  N _ _ _ _ _ _ h)
  · rw [if_pos hc] at h
    refine aw_iconst (pc := 13) dX12_often_13 ⟨by decide, by decide⟩ ?_
    cases h
    exact aw_iret (pc := 14) rfl dX12_often_14
theorem w_m_often {l : Launch} {K : aw_K} (N d : Nat) (hd : 3 ≤ d) : ∀ (x1 : Int) (w : aw_W) (y : Int) (v : aw_W), m_often N x1 w = some (y, v) → aw_Met l K MX12_often (d) [.inr (.inr 49), .inl x1] w (some (.inl y), v) := by
  obtain ⟨e, rfl⟩ : ∃ e, d = e + 1 := ⟨d - 1, by omega⟩
  exact w_m_often_d N e (by omega)
theorem dX12_pair_0 : decode cX12_pair 0 = .ok (.aload_n 0, 1) := by decide +kernel
theorem dX12_pair_1 : decode cX12_pair 1 = .ok (.iconst 0, 1) := by decide +kernel
theorem dX12_pair_2 : decode cX12_pair 2 = .ok (.putfield 99, 3) := by decide +kernel
theorem dX12_pair_5 : decode cX12_pair 5 = .ok (.iconst (-1), 1) := by decide +kernel
theorem dX12_pair_6 : decode cX12_pair 6 = .ok (.istore_n 1, 1) := by decide +kernel
theorem dX12_pair_7 : decode cX12_pair 7 = .ok (.iconst 0, 1) := by decide +kernel
theorem dX12_pair_8 : decode cX12_pair 8 = .ok (.istore_n 2, 1) := by decide +kernel
theorem dX12_pair_9 : decode cX12_pair 9 = .ok (.iconst 0, 1) := by decide +kernel
theorem dX12_pair_10 : decode cX12_pair 10 = .ok (.istore_n 3, 1) := by decide +kernel
theorem dX12_pair_11 : decode cX12_pair 11 = .ok (.iload_n 3, 1) := by decide +kernel
theorem dX12_pair_12 : decode cX12_pair 12 = .ok (.aload_n 0, 1) := by decide +kernel
theorem dX12_pair_13 : decode cX12_pair 13 = .ok (.getfield 270, 3) := by decide +kernel
theorem dX12_pair_16 : decode cX12_pair 16 = .ok (.if_icmp .ge 63, 3) := by decide +kernel
theorem dX12_pair_19 : decode cX12_pair 19 = .ok (.iconst 0, 1) := by decide +kernel
theorem dX12_pair_20 : decode cX12_pair 20 = .ok (.istore 4, 2) := by decide +kernel
theorem dX12_pair_22 : decode cX12_pair 22 = .ok (.iload 4, 2) := by decide +kernel
theorem dX12_pair_24 : decode cX12_pair 24 = .ok (.aload_n 0, 1) := by decide +kernel
theorem dX12_pair_25 : decode cX12_pair 25 = .ok (.getfield 270, 3) := by decide +kernel
theorem dX12_pair_28 : decode cX12_pair 28 = .ok (.if_icmp .ge 45, 3) := by decide +kernel
theorem dX12_pair_31 : decode cX12_pair 31 = .ok (.iload_n 3, 1) := by decide +kernel
theorem dX12_pair_32 : decode cX12_pair 32 = .ok (.iload 4, 2) := by decide +kernel
theorem dX12_pair_34 : decode cX12_pair 34 = .ok (.if_icmp .eq 33, 3) := by decide +kernel
theorem dX12_pair_37 : decode cX12_pair 37 = .ok (.aload_n 0, 1) := by decide +kernel
theorem dX12_pair_38 : decode cX12_pair 38 = .ok (.iload_n 3, 1) := by decide +kernel
theorem dX12_pair_39 : decode cX12_pair 39 = .ok (.iload 4, 2) := by decide +kernel
theorem dX12_pair_41 : decode cX12_pair 41 = .ok (.invokevirtual 424, 3) := by decide +kernel
theorem dX12_pair_44 : decode cX12_pair 44 = .ok (.iload_n 2, 1) := by decide +kernel
theorem dX12_pair_45 : decode cX12_pair 45 = .ok (.if_icmp .gt 6, 3) := by decide +kernel
theorem dX12_pair_48 : decode cX12_pair 48 = .ok (.goto 19, 3) := by decide +kernel
theorem dX12_pair_51 : decode cX12_pair 51 = .ok (.bipush 10, 2) := by decide +kernel
theorem dX12_pair_53 : decode cX12_pair 53 = .ok (.iload_n 3, 1) := by decide +kernel
theorem dX12_pair_54 : decode cX12_pair 54 = .ok (.imul, 1) := by decide +kernel
theorem dX12_pair_55 : decode cX12_pair 55 = .ok (.iload 4, 2) := by decide +kernel
theorem dX12_pair_57 : decode cX12_pair 57 = .ok (.iadd, 1) := by decide +kernel
theorem dX12_pair_58 : decode cX12_pair 58 = .ok (.istore_n 1, 1) := by decide +kernel
theorem dX12_pair_59 : decode cX12_pair 59 = .ok (.aload_n 0, 1) := by decide +kernel
theorem dX12_pair_60 : decode cX12_pair 60 = .ok (.iload_n 3, 1) := by decide +kernel
theorem dX12_pair_61 : decode cX12_pair 61 = .ok (.iload 4, 2) := by decide +kernel
theorem dX12_pair_63 : decode cX12_pair 63 = .ok (.invokevirtual 424, 3) := by decide +kernel
theorem dX12_pair_66 : decode cX12_pair 66 = .ok (.istore_n 2, 1) := by decide +kernel
theorem dX12_pair_67 : decode cX12_pair 67 = .ok (.iinc 4 1, 3) := by decide +kernel
theorem dX12_pair_70 : decode cX12_pair 70 = .ok (.goto (-48), 3) := by decide +kernel
theorem dX12_pair_73 : decode cX12_pair 73 = .ok (.iinc 3 1, 3) := by decide +kernel
theorem dX12_pair_76 : decode cX12_pair 76 = .ok (.goto (-65), 3) := by decide +kernel
theorem dX12_pair_79 : decode cX12_pair 79 = .ok (.iload_n 1, 1) := by decide +kernel
theorem dX12_pair_80 : decode cX12_pair 80 = .ok (.ireturn, 1) := by decide +kernel
def m_pair_79 (N : Nat) (x1 : Int) (w : aw_W) : Option (Int × aw_W) :=
  some (x1, w)
theorem w_m_pair_79 {l : Launch} {K : aw_K} (N d : Nat) (hd : 3 ≤ d) : ∀ (x1 : Int) (w : aw_W) (y : Int) (v : aw_W), m_pair_79 N x1 w = some (y, v) → aw_AW l K MX12_pair (d + 1) 79 [(1, .inl x1)] [] w (some (.inl y), v) := by
  intro x1 w y v h
  unfold m_pair_79 at h
  refine aw_iload_n (pc := 79) (q := 0) dX12_pair_79 rfl ?_
  cases h
  exact aw_iret (pc := 80) rfl dX12_pair_80
def m_pair_73 (N : Nat) (k11 : Int → Int → Int → aw_W → Option (Int × aw_W)) (x1 x2 x3 : Int) (w : aw_W) : Option (Int × aw_W) :=
  k11 x1 x2 (aw_w (x3 + 1)) w
theorem w_m_pair_73 {l : Launch} {K : aw_K} (N d : Nat) (hd : 3 ≤ d) (k11 : Int → Int → Int → aw_W → Option (Int × aw_W)) (hk11 : ∀ (x1 x2 x3 : Int) (w : aw_W) (y : Int) (v : aw_W), k11 x1 x2 x3 w = some (y, v) → aw_AW l K MX12_pair (d + 1) 11 [(0, .inr (.inr 49)), (1, .inl x1), (2, .inl x2), (3, .inl x3)] [] w (some (.inl y), v)) : ∀ (x1 x2 x3 : Int) (w : aw_W) (y : Int) (v : aw_W), m_pair_73 N k11 x1 x2 x3 w = some (y, v) → aw_AW l K MX12_pair (d + 1) 73 [(0, .inr (.inr 49)), (1, .inl x1), (2, .inl x2), (3, .inl x3)] [] w (some (.inl y), v) := by
  intro x1 x2 x3 w y v h
  unfold m_pair_73 at h
  refine aw_iinc (pc := 73) (q := 3) (ls' := [(3, .inl (aw_w (x3 + 1))), (0, .inr (.inr 49)), (1, .inl x1), (2, .inl x2)]) dX12_pair_73 rfl (by decide) rfl ?_
  refine aw_goto (pc := 76) (tgt := 11) dX12_pair_76 (by decide) ?_
  exact aw_sel [1, 2, 3, 0] rfl (hk11 _ _ _ _ _ _ h)
def m_pair_67 (N : Nat) (k11 : Int → Int → Int → aw_W → Option (Int × aw_W)) (k22 : Int → Int → Int → Int → aw_W → Option (Int × aw_W)) (x1 x2 x3 x4 : Int) (w : aw_W) : Option (Int × aw_W) :=
  k22 x1 x2 x3 (aw_w (x4 + 1)) w
theorem w_m_pair_67 {l : Launch} {K : aw_K} (N d : Nat) (hd : 3 ≤ d) (k11 : Int → Int → Int → aw_W → Option (Int × aw_W)) (hk11 : ∀ (x1 x2 x3 : Int) (w : aw_W) (y : Int) (v : aw_W), k11 x1 x2 x3 w = some (y, v) → aw_AW l K MX12_pair (d + 1) 11 [(0, .inr (.inr 49)), (1, .inl x1), (2, .inl x2), (3, .inl x3)] [] w (some (.inl y), v)) (k22 : Int → Int → Int → Int → aw_W → Option (Int × aw_W)) (hk22 : ∀ (x1 x2 x3 x4 : Int) (w : aw_W) (y : Int) (v : aw_W), k22 x1 x2 x3 x4 w = some (y, v) → aw_AW l K MX12_pair (d + 1) 22 [(0, .inr (.inr 49)), (1, .inl x1), (2, .inl x2), (3, .inl x3), (4, .inl x4)] [] w (some (.inl y), v)) : ∀ (x1 x2 x3 x4 : Int) (w : aw_W) (y : Int) (v : aw_W), m_pair_67 N k11 k22 x1 x2 x3 x4 w = some (y, v) → aw_AW l K MX12_pair (d + 1) 67 [(0, .inr (.inr 49)), (1, .inl x1), (2, .inl x2), (3, .inl x3), (4, .inl x4)] [] w (some (.inl y), v) := by
  intro x1 x2 x3 x4 w y v h
  unfold m_pair_67 at h
  refine aw_iinc (pc := 67) (q := 4) (ls' := [(4, .inl (aw_w (x4 + 1))), (0, .inr (.inr 49)), (1, .inl x1), (2, .inl x2), (3, .inl x3)]) dX12_pair_67 rfl (by decide) rfl ?_
  refine aw_goto (pc := 70) (tgt := 22) dX12_pair_70 (by decide) ?_
  exact aw_sel [1, 2, 3, 4, 0] rfl (hk22 _ _ _ _ _ _ _ h)
def m_pair_22 (N : Nat) (k11 : Int → Int → Int → aw_W → Option (Int × aw_W)) : Nat → Int → Int → Int → Int → aw_W → Option (Int × aw_W)
  | 0, _, _, _, _, _ => none
  | n + 1, x1, x2, x3, x4, w =>
    if (w 49 22) ≤ x4 then
      m_pair_73 N k11 x1 x2 x3 w
    else
      if x3 = x4 then
        m_pair_67 N k11 (m_pair_22 N k11 n) x1 x2 x3 x4 w
      else
        aw_b2 (m_madeBy N x3 x4 w) fun r1 w1 =>
          if x2 < r1 then
            aw_b2 (m_madeBy N x3 x4 w1) fun r2 w2 =>
              m_pair_67 N k11 (m_pair_22 N k11 n) (aw_w ((aw_w (10 * x3)) + x4)) r2 x3 x4 w2
          else
            m_pair_67 N k11 (m_pair_22 N k11 n) x1 x2 x3 x4 w1
theorem w_m_pair_22 {l : Launch} {K : aw_K} (N d : Nat) (hd : 3 ≤ d) (k11 : Int → Int → Int → aw_W → Option (Int × aw_W)) (hk11 : ∀ (x1 x2 x3 : Int) (w : aw_W) (y : Int) (v : aw_W), k11 x1 x2 x3 w = some (y, v) → aw_AW l K MX12_pair (d + 1) 11 [(0, .inr (.inr 49)), (1, .inl x1), (2, .inl x2), (3, .inl x3)] [] w (some (.inl y), v)) : ∀ (n : Nat) (x1 x2 x3 x4 : Int) (w : aw_W) (y : Int) (v : aw_W), m_pair_22 N k11 n x1 x2 x3 x4 w = some (y, v) → aw_AW l K MX12_pair (d + 1) 22 [(0, .inr (.inr 49)), (1, .inl x1), (2, .inl x2), (3, .inl x3), (4, .inl x4)] [] w (some (.inl y), v) := by
  intro n
  induction n with
  | zero => intro x1 x2 x3 x4 w y v h; rw [m_pair_22] at h; cases h
  | succ n ih =>
    intro x1 x2 x3 x4 w y v h
    rw [m_pair_22] at h
    refine aw_iload (pc := 22) (q := 4) dX12_pair_22 rfl ?_
    refine aw_aload_n (pc := 24) (q := 0) dX12_pair_24 rfl ?_
    refine aw_getf (pc := 25) (v := .inl (w 49 22)) dX12_pair_25 fl_RX12_270 (by decide) rfl rfl rfl ?_
    refine aw_icmp_ge (pc := 28) (tgt := 73) dX12_pair_28 (by decide) (fun hc => ?_) (fun hc => ?_)
    · rw [if_pos hc] at h
      exact aw_sel [0, 1, 2, 3] rfl (w_m_pair_73 N d hd  _ hk11 _ _ _ _ _ _ h)
    · rw [if_neg hc] at h
      refine aw_iload_n (pc := 31) (q := 3) dX12_pair_31 rfl ?_
      refine aw_iload (pc := 32) (q := 4) dX12_pair_32 rfl ?_
      refine aw_icmp_eq (pc := 34) (tgt := 67) dX12_pair_34 (by decide) (fun hc => ?_) (fun hc => ?_)
      · rw [if_pos hc] at h
        exact aw_sel [0, 1, 2, 3, 4] rfl (w_m_pair_67 N d hd  _ hk11 _ ih _ _ _ _ _ _ _ h)
      · rw [if_neg hc] at h
        refine aw_aload_n (pc := 37) (q := 0) dX12_pair_37 rfl ?_
        refine aw_iload_n (pc := 38) (q := 3) dX12_pair_38 rfl ?_
        refine aw_iload (pc := 39) (q := 4) dX12_pair_39 rfl ?_
        obtain ⟨r1, w1, h1, h⟩ := aw_b2s h
        refine aw_callV (pc := 41) (as := [.inl x3, .inl x4]) (st := []) (st' := [.inl r1]) dX12_pair_41 cv_RX12_424 (by decide) rfl rfl rfl rfl (Nat.le_of_ble_eq_true rfl) (w_m_madeBy N d (by omega) _ _ _ _ _ h1) rfl ?_
        refine aw_iload_n (pc := 44) (q := 2) dX12_pair_44 rfl ?_
        refine aw_icmp_gt (pc := 45) (tgt := 51) dX12_pair_45 (by decide) (fun hc => ?_) (fun hc => ?_)
        · rw [if_pos hc] at h
          refine aw_bipush (pc := 51) dX12_pair_51 (by decide) ⟨by decide, by decide⟩ ?_
          refine aw_iload_n (pc := 53) (q := 3) dX12_pair_53 rfl ?_
          refine aw_imul (pc := 54) dX12_pair_54 ?_
          refine aw_iload (pc := 55) (q := 4) dX12_pair_55 rfl ?_
          refine aw_iadd (pc := 57) dX12_pair_57 ?_
          refine aw_istore_n (pc := 58) (ls' := [(1, .inl (aw_w ((aw_w (10 * x3)) + x4))), (0, .inr (.inr 49)), (2, .inl x2), (3, .inl x3), (4, .inl x4)]) dX12_pair_58 (by decide) rfl ?_
          refine aw_aload_n (pc := 59) (q := 1) dX12_pair_59 rfl ?_
          refine aw_iload_n (pc := 60) (q := 3) dX12_pair_60 rfl ?_
          refine aw_iload (pc := 61) (q := 4) dX12_pair_61 rfl ?_
          obtain ⟨r2, w2, h2, h⟩ := aw_b2s h
          refine aw_callV (pc := 63) (as := [.inl x3, .inl x4]) (st := []) (st' := [.inl r2]) dX12_pair_63 cv_RX12_424 (by decide) rfl rfl rfl rfl (Nat.le_of_ble_eq_true rfl) (w_m_madeBy N d (by omega) _ _ _ _ _ h2) rfl ?_
          refine aw_istore_n (pc := 66) (ls' := [(2, .inl r2), (1, .inl (aw_w ((aw_w (10 * x3)) + x4))), (0, .inr (.inr 49)), (3, .inl x3), (4, .inl x4)]) dX12_pair_66 (by decide) rfl ?_
          exact aw_sel [2, 1, 0, 3, 4] rfl (w_m_pair_67 N d hd  _ hk11 _ ih _ _ _ _ _ _ _ h)
        · rw [if_neg hc] at h
          refine aw_goto (pc := 48) (tgt := 67) dX12_pair_48 (by decide) ?_
          exact aw_sel [0, 1, 2, 3, 4] rfl (w_m_pair_67 N d hd  _ hk11 _ ih _ _ _ _ _ _ _ h)
def m_pair_11 (N : Nat) : Nat → Int → Int → Int → aw_W → Option (Int × aw_W)
  | 0, _, _, _, _ => none
  | n + 1, x1, x2, x3, w =>
    if (w 49 22) ≤ x3 then
      m_pair_79 N x1 w
    else
      m_pair_22 N (m_pair_11 N n) N x1 x2 x3 0 w
theorem w_m_pair_11 {l : Launch} {K : aw_K} (N d : Nat) (hd : 3 ≤ d) : ∀ (n : Nat) (x1 x2 x3 : Int) (w : aw_W) (y : Int) (v : aw_W), m_pair_11 N n x1 x2 x3 w = some (y, v) → aw_AW l K MX12_pair (d + 1) 11 [(0, .inr (.inr 49)), (1, .inl x1), (2, .inl x2), (3, .inl x3)] [] w (some (.inl y), v) := by
  intro n
  induction n with
  | zero => intro x1 x2 x3 w y v h; rw [m_pair_11] at h; cases h
  | succ n ih =>
    intro x1 x2 x3 w y v h
    rw [m_pair_11] at h
    refine aw_iload_n (pc := 11) (q := 3) dX12_pair_11 rfl ?_
    refine aw_aload_n (pc := 12) (q := 0) dX12_pair_12 rfl ?_
    refine aw_getf (pc := 13) (v := .inl (w 49 22)) dX12_pair_13 fl_RX12_270 (by decide) rfl rfl rfl ?_
    refine aw_icmp_ge (pc := 16) (tgt := 79) dX12_pair_16 (by decide) (fun hc => ?_) (fun hc => ?_)
    · rw [if_pos hc] at h
      exact aw_sel [1] rfl (w_m_pair_79 N d hd  _ _ _ _ h)
    · rw [if_neg hc] at h
      refine aw_iconst (pc := 19) dX12_pair_19 ⟨by decide, by decide⟩ ?_
      refine aw_istore (pc := 20) (ls' := [(4, .inl 0), (0, .inr (.inr 49)), (1, .inl x1), (2, .inl x2), (3, .inl x3)]) dX12_pair_20 (by decide) rfl ?_
      exact aw_sel [1, 2, 3, 4, 0] rfl (w_m_pair_22 N d hd  _ ih N _ _ _ _ _ _ _ h)
def m_pair (N : Nat) (w : aw_W) : Option (Int × aw_W) :=
  m_pair_11 N N (-1) 0 0 (aw_up w 49 0 0)
theorem w_m_pair_d {l : Launch} {K : aw_K} (N d : Nat) (hd : 3 ≤ d) : ∀ (w : aw_W) (y : Int) (v : aw_W), m_pair N w = some (y, v) → aw_Met l K MX12_pair (d + 1) [.inr (.inr 49)] w (some (.inl y), v) := by
  intro w y v h
  unfold m_pair at h
  refine aw_enter rfl (Nat.le_of_ble_eq_true rfl) ?_
  show aw_AW l K MX12_pair (d + 1) 0 [(0, .inr (.inr 49))] [] w (some (.inl y), v)
  refine aw_aload_n (pc := 0) (q := 0) dX12_pair_0 rfl ?_
  refine aw_iconst (pc := 1) dX12_pair_1 ⟨by decide, by decide⟩ ?_
  refine aw_puti (pc := 2) dX12_pair_2 fp_RX12_99 (by decide) rfl rfl ?_
  refine aw_iconst (pc := 5) dX12_pair_5 ⟨by decide, by decide⟩ ?_
  refine aw_istore_n (pc := 6) (ls' := [(1, .inl (-1)), (0, .inr (.inr 49))]) dX12_pair_6 (by decide) rfl ?_
  refine aw_iconst (pc := 7) dX12_pair_7 ⟨by decide, by decide⟩ ?_
  refine aw_istore_n (pc := 8) (ls' := [(2, .inl 0), (1, .inl (-1)), (0, .inr (.inr 49))]) dX12_pair_8 (by decide) rfl ?_
  refine aw_iconst (pc := 9) dX12_pair_9 ⟨by decide, by decide⟩ ?_
  refine aw_istore_n (pc := 10) (ls' := [(3, .inl 0), (2, .inl 0), (1, .inl (-1)), (0, .inr (.inr 49))]) dX12_pair_10 (by decide) rfl ?_
  exact aw_sel [3, 2, 1, 0] rfl (w_m_pair_11 N d hd  N _ _ _ _ _ _ h)
theorem w_m_pair {l : Launch} {K : aw_K} (N d : Nat) (hd : 4 ≤ d) : ∀ (w : aw_W) (y : Int) (v : aw_W), m_pair N w = some (y, v) → aw_Met l K MX12_pair (d) [.inr (.inr 49)] w (some (.inl y), v) := by
  obtain ⟨e, rfl⟩ : ∃ e, d = e + 1 := ⟨d - 1, by omega⟩
  exact w_m_pair_d N e (by omega)
theorem dX12_race_0 : decode cX12_race 0 = .ok (.aload_n 0, 1) := by decide +kernel
theorem dX12_race_1 : decode cX12_race 1 = .ok (.iconst 0, 1) := by decide +kernel
theorem dX12_race_2 : decode cX12_race 2 = .ok (.putfield 99, 3) := by decide +kernel
theorem dX12_race_5 : decode cX12_race 5 = .ok (.aload_n 0, 1) := by decide +kernel
theorem dX12_race_6 : decode cX12_race 6 = .ok (.iload_n 1, 1) := by decide +kernel
theorem dX12_race_7 : decode cX12_race 7 = .ok (.iload_n 2, 1) := by decide +kernel
theorem dX12_race_8 : decode cX12_race 8 = .ok (.invokevirtual 310, 3) := by decide +kernel
theorem dX12_race_11 : decode cX12_race 11 = .ok (.ifCond .eq 15, 3) := by decide +kernel
theorem dX12_race_14 : decode cX12_race 14 = .ok (.iload_n 3, 1) := by decide +kernel
theorem dX12_race_15 : decode cX12_race 15 = .ok (.i2l, 1) := by decide +kernel
theorem dX12_race_16 : decode cX12_race 16 = .ok (.lconst 0, 1) := by decide +kernel
theorem dX12_race_17 : decode cX12_race 17 = .ok (.ldc2_w 313, 3) := by decide +kernel
theorem dX12_race_20 : decode cX12_race 20 = .ok (.invokestatic 227, 3) := by decide +kernel
theorem dX12_race_23 : decode cX12_race 23 = .ok (.ifCond .ne 7, 3) := by decide +kernel
theorem dX12_race_26 : decode cX12_race 26 = .ok (.ldc_w 315, 3) := by decide +kernel
theorem dX12_race_29 : decode cX12_race 29 = .ok (.ireturn, 1) := by decide +kernel
theorem dX12_race_30 : decode cX12_race 30 = .ok (.aload_n 0, 1) := by decide +kernel
theorem dX12_race_31 : decode cX12_race 31 = .ok (.iload_n 1, 1) := by decide +kernel
theorem dX12_race_32 : decode cX12_race 32 = .ok (.iload_n 2, 1) := by decide +kernel
theorem dX12_race_33 : decode cX12_race 33 = .ok (.invokevirtual 316, 3) := by decide +kernel
theorem dX12_race_36 : decode cX12_race 36 = .ok (.iload_n 3, 1) := by decide +kernel
theorem dX12_race_37 : decode cX12_race 37 = .ok (.ifCond .ne 8, 3) := by decide +kernel
theorem dX12_race_40 : decode cX12_race 40 = .ok (.aload_n 0, 1) := by decide +kernel
theorem dX12_race_41 : decode cX12_race 41 = .ok (.invokevirtual 320, 3) := by decide +kernel
theorem dX12_race_44 : decode cX12_race 44 = .ok (.ireturn, 1) := by decide +kernel
theorem dX12_race_45 : decode cX12_race 45 = .ok (.iload_n 3, 1) := by decide +kernel
theorem dX12_race_46 : decode cX12_race 46 = .ok (.iconst 2, 1) := by decide +kernel
theorem dX12_race_47 : decode cX12_race 47 = .ok (.if_icmp .ne 8, 3) := by decide +kernel
theorem dX12_race_50 : decode cX12_race 50 = .ok (.aload_n 0, 1) := by decide +kernel
theorem dX12_race_51 : decode cX12_race 51 = .ok (.getfield 301, 3) := by decide +kernel
theorem dX12_race_54 : decode cX12_race 54 = .ok (.ireturn, 1) := by decide +kernel
theorem dX12_race_55 : decode cX12_race 55 = .ok (.iconst 0, 1) := by decide +kernel
theorem dX12_race_56 : decode cX12_race 56 = .ok (.istore 4, 2) := by decide +kernel
theorem dX12_race_58 : decode cX12_race 58 = .ok (.iconst 0, 1) := by decide +kernel
theorem dX12_race_59 : decode cX12_race 59 = .ok (.istore 5, 2) := by decide +kernel
theorem dX12_race_61 : decode cX12_race 61 = .ok (.iload 5, 2) := by decide +kernel
theorem dX12_race_63 : decode cX12_race 63 = .ok (.aload_n 0, 1) := by decide +kernel
theorem dX12_race_64 : decode cX12_race 64 = .ok (.getfield 270, 3) := by decide +kernel
theorem dX12_race_67 : decode cX12_race 67 = .ok (.if_icmp .ge 29, 3) := by decide +kernel
theorem dX12_race_70 : decode cX12_race 70 = .ok (.iload 4, 2) := by decide +kernel
theorem dX12_race_72 : decode cX12_race 72 = .ok (.aload_n 0, 1) := by decide +kernel
theorem dX12_race_73 : decode cX12_race 73 = .ok (.getfield 55, 3) := by decide +kernel
theorem dX12_race_76 : decode cX12_race 76 = .ok (.iload 5, 2) := by decide +kernel
theorem dX12_race_78 : decode cX12_race 78 = .ok (.baload, 1) := by decide +kernel
theorem dX12_race_79 : decode cX12_race 79 = .ok (.ifCond .eq 7, 3) := by decide +kernel
theorem dX12_race_82 : decode cX12_race 82 = .ok (.iconst 0, 1) := by decide +kernel
theorem dX12_race_83 : decode cX12_race 83 = .ok (.goto 4, 3) := by decide +kernel
theorem dX12_race_86 : decode cX12_race 86 = .ok (.iconst 1, 1) := by decide +kernel
theorem dX12_race_87 : decode cX12_race 87 = .ok (.iadd, 1) := by decide +kernel
theorem dX12_race_88 : decode cX12_race 88 = .ok (.istore 4, 2) := by decide +kernel
theorem dX12_race_90 : decode cX12_race 90 = .ok (.iinc 5 1, 3) := by decide +kernel
theorem dX12_race_93 : decode cX12_race 93 = .ok (.goto (-32), 3) := by decide +kernel
theorem dX12_race_96 : decode cX12_race 96 = .ok (.iload 4, 2) := by decide +kernel
theorem dX12_race_98 : decode cX12_race 98 = .ok (.ireturn, 1) := by decide +kernel
def m_race_26 (N : Nat) (w : aw_W) : Option (Int × aw_W) :=
  some ((-1000000), w)
theorem w_m_race_26 {l : Launch} {K : aw_K} (N d : Nat) (hd : 129 ≤ d) : ∀ (w : aw_W) (y : Int) (v : aw_W), m_race_26 N w = some (y, v) → aw_AW l K MX12_race (d + 1) 26 [] [] w (some (.inl y), v) := by
  intro w y v h
  unfold m_race_26 at h
  refine aw_ldcw (pc := 26) (x := (-1000000)) dX12_race_26 cn_RX12_315 ⟨by decide, by decide⟩ ?_
  cases h
  exact aw_iret (pc := 29) rfl dX12_race_29
def m_race_96 (N : Nat) (x4 : Int) (w : aw_W) : Option (Int × aw_W) :=
  some (x4, w)
theorem w_m_race_96 {l : Launch} {K : aw_K} (N d : Nat) (hd : 129 ≤ d) : ∀ (x4 : Int) (w : aw_W) (y : Int) (v : aw_W), m_race_96 N x4 w = some (y, v) → aw_AW l K MX12_race (d + 1) 96 [(4, .inl x4)] [] w (some (.inl y), v) := by
  intro x4 w y v h
  unfold m_race_96 at h
  refine aw_iload (pc := 96) (q := 0) dX12_race_96 rfl ?_
  cases h
  exact aw_iret (pc := 98) rfl dX12_race_98
def m_race_87 (N : Nat) (k61 : Int → Int → aw_W → Option (Int × aw_W)) (x5 s0 s1 : Int) (w : aw_W) : Option (Int × aw_W) :=
  k61 (aw_w (s1 + s0)) (aw_w (x5 + 1)) w
theorem w_m_race_87 {l : Launch} {K : aw_K} (N d : Nat) (hd : 129 ≤ d) (k61 : Int → Int → aw_W → Option (Int × aw_W)) (hk61 : ∀ (x4 x5 : Int) (w : aw_W) (y : Int) (v : aw_W), k61 x4 x5 w = some (y, v) → aw_AW l K MX12_race (d + 1) 61 [(0, .inr (.inr 49)), (4, .inl x4), (5, .inl x5)] [] w (some (.inl y), v)) : ∀ (x5 s0 s1 : Int) (w : aw_W) (y : Int) (v : aw_W), m_race_87 N k61 x5 s0 s1 w = some (y, v) → aw_AW l K MX12_race (d + 1) 87 [(0, .inr (.inr 49)), (5, .inl x5)] [.inl s0, .inl s1] w (some (.inl y), v) := by
  intro x5 s0 s1 w y v h
  unfold m_race_87 at h
  refine aw_iadd (pc := 87) dX12_race_87 ?_
  refine aw_istore (pc := 88) (ls' := [(4, .inl (aw_w (s1 + s0))), (0, .inr (.inr 49)), (5, .inl x5)]) dX12_race_88 (by decide) rfl ?_
  refine aw_iinc (pc := 90) (q := 2) (ls' := [(5, .inl (aw_w (x5 + 1))), (4, .inl (aw_w (s1 + s0))), (0, .inr (.inr 49))]) dX12_race_90 rfl (by decide) rfl ?_
  refine aw_goto (pc := 93) (tgt := 61) dX12_race_93 (by decide) ?_
  exact aw_sel [2, 1, 0] rfl (hk61 _ _ _ _ _ h)
def m_race_61 (N : Nat) : Nat → Int → Int → aw_W → Option (Int × aw_W)
  | 0, _, _, _ => none
  | n + 1, x4, x5, w =>
    if (w 49 22) ≤ x5 then
      m_race_96 N x4 w
    else
      if 0 ≤ x5 ∧ x5 < 6 then
        if (w 60 x5.toNat) = 0 then
          m_race_87 N (m_race_61 N n) x5 1 x4 w
        else
          m_race_87 N (m_race_61 N n) x5 0 x4 w
      else none
theorem w_m_race_61 {l : Launch} {K : aw_K} (N d : Nat) (hd : 129 ≤ d) : ∀ (n : Nat) (x4 x5 : Int) (w : aw_W) (y : Int) (v : aw_W), m_race_61 N n x4 x5 w = some (y, v) → aw_AW l K MX12_race (d + 1) 61 [(0, .inr (.inr 49)), (4, .inl x4), (5, .inl x5)] [] w (some (.inl y), v) := by
  intro n
  induction n with
  | zero => intro x4 x5 w y v h; rw [m_race_61] at h; cases h
  | succ n ih =>
    intro x4 x5 w y v h
    rw [m_race_61] at h
    refine aw_iload (pc := 61) (q := 2) dX12_race_61 rfl ?_
    refine aw_aload_n (pc := 63) (q := 0) dX12_race_63 rfl ?_
    refine aw_getf (pc := 64) (v := .inl (w 49 22)) dX12_race_64 fl_RX12_270 (by decide) rfl rfl rfl ?_
    refine aw_icmp_ge (pc := 67) (tgt := 96) dX12_race_67 (by decide) (fun hc => ?_) (fun hc => ?_)
    · rw [if_pos hc] at h
      exact aw_sel [1] rfl (w_m_race_96 N d hd  _ _ _ _ h)
    · rw [if_neg hc] at h
      refine aw_iload (pc := 70) (q := 1) dX12_race_70 rfl ?_
      refine aw_aload_n (pc := 72) (q := 0) dX12_race_72 rfl ?_
      refine aw_getf (pc := 73) (v := .inr (.inr 60)) dX12_race_73 fl_RX12_55 (by decide) rfl rfl rfl ?_
      refine aw_iload (pc := 76) (q := 2) dX12_race_76 rfl ?_
      obtain ⟨hb, h⟩ := aw_cks h
      refine aw_zaldv (pc := 78) (v := w 60 x5.toNat) dX12_race_78 rfl hb.1 hb.2 rfl ?_
      refine aw_if_eq (pc := 79) (tgt := 86) dX12_race_79 (by decide) (fun hc => ?_) (fun hc => ?_)
      · rw [if_pos hc] at h
        refine aw_iconst (pc := 86) dX12_race_86 ⟨by decide, by decide⟩ ?_
        exact aw_sel [0, 2] rfl (w_m_race_87 N d hd  _ ih _ _ _ _ _ _ h)
      · rw [if_neg hc] at h
        refine aw_iconst (pc := 82) dX12_race_82 ⟨by decide, by decide⟩ ?_
        refine aw_goto (pc := 83) (tgt := 87) dX12_race_83 (by decide) ?_
        exact aw_sel [0, 2] rfl (w_m_race_87 N d hd  _ ih _ _ _ _ _ _ h)
def m_race (N : Nat) (x1 x2 x3 : Int) (w : aw_W) : Option (Int × aw_W) :=
  aw_b2 (m_isRace N x1 x2 (aw_up w 49 0 0)) fun r1 w1 =>
    if r1 = 0 then
      m_race_26 N w1
    else
      aw_b2 (m_isIn N x3 0 2 w1) fun r2 w2 =>
        if r2 = 0 then
          m_race_26 N w2
        else
          aw_b1 (m_run N x1 x2 w2) fun w3 =>
            if x3 = 0 then
              aw_b2 (m_winner N w3) fun r4 w4 =>
                some (r4, w4)
            else
              if x3 = 2 then
                some (w3 49 31, w3)
              else
                m_race_61 N N 0 0 w3
theorem w_m_race_d {l : Launch} {K : aw_K} (N d : Nat) (hd : 129 ≤ d) : ∀ (x1 x2 x3 : Int) (w : aw_W) (y : Int) (v : aw_W), m_race N x1 x2 x3 w = some (y, v) → aw_Met l K MX12_race (d + 1) [.inr (.inr 49), .inl x1, .inl x2, .inl x3] w (some (.inl y), v) := by
  intro x1 x2 x3 w y v h
  unfold m_race at h
  refine aw_enter rfl (Nat.le_of_ble_eq_true rfl) ?_
  show aw_AW l K MX12_race (d + 1) 0 [(0, .inr (.inr 49)), (1, .inl x1), (2, .inl x2), (3, .inl x3)] [] w (some (.inl y), v)
  refine aw_aload_n (pc := 0) (q := 0) dX12_race_0 rfl ?_
  refine aw_iconst (pc := 1) dX12_race_1 ⟨by decide, by decide⟩ ?_
  refine aw_puti (pc := 2) dX12_race_2 fp_RX12_99 (by decide) rfl rfl ?_
  refine aw_aload_n (pc := 5) (q := 0) dX12_race_5 rfl ?_
  refine aw_iload_n (pc := 6) (q := 1) dX12_race_6 rfl ?_
  refine aw_iload_n (pc := 7) (q := 2) dX12_race_7 rfl ?_
  obtain ⟨r1, w1, h1, h⟩ := aw_b2s h
  refine aw_callV (pc := 8) (as := [.inl x1, .inl x2]) (st := []) (st' := [.inl r1]) dX12_race_8 cv_RX12_310 (by decide) rfl rfl rfl rfl (Nat.le_of_ble_eq_true rfl) (w_m_isRace N d (by omega) _ _ _ _ _ h1) rfl ?_
  refine aw_if_eq (pc := 11) (tgt := 26) dX12_race_11 (by decide) (fun hc => ?_) (fun hc => ?_)
  · rw [if_pos hc] at h
    exact aw_sel [] rfl (w_m_race_26 N d hd  _ _ _ h)
  · rw [if_neg hc] at h
    refine aw_iload_n (pc := 14) (q := 3) dX12_race_14 rfl ?_
    refine aw_i2l (pc := 15) dX12_race_15 ?_
    refine aw_lconst (pc := 16) (x := 0) dX12_race_16 (by decide) ⟨by decide, by decide⟩ ?_
    refine aw_ldc2 (pc := 17) (x := 2) dX12_race_17 cl_RX12_313 ⟨by decide, by decide⟩ ?_
    obtain ⟨r2, w2, h2, h⟩ := aw_b2s h
    refine aw_callS (pc := 20) (as := [.inr (.inl x3), .inr (.inl 0), .inr (.inl 2)]) (st := []) (st' := [.inl r2]) dX12_race_20 cs_RX12_227 rfl rfl (Nat.le_of_ble_eq_true rfl) (w_m_isIn N d (by omega) _ _ _ _ _ _ h2) rfl ?_
    refine aw_if_ne (pc := 23) (tgt := 30) dX12_race_23 (by decide) (fun hc => ?_) (fun hc => ?_)
    · rw [if_neg hc] at h
      refine aw_aload_n (pc := 30) (q := 0) dX12_race_30 rfl ?_
      refine aw_iload_n (pc := 31) (q := 1) dX12_race_31 rfl ?_
      refine aw_iload_n (pc := 32) (q := 2) dX12_race_32 rfl ?_
      obtain ⟨w3, h3, h⟩ := aw_b1s h
      refine aw_callV (pc := 33) (as := [.inl x1, .inl x2]) (st := []) (st' := []) dX12_race_33 cv_RX12_316 (by decide) rfl rfl rfl rfl (Nat.le_of_ble_eq_true rfl) (w_m_run N d (by omega) _ _ _ _ h3) rfl ?_
      refine aw_iload_n (pc := 36) (q := 3) dX12_race_36 rfl ?_
      refine aw_if_ne (pc := 37) (tgt := 45) dX12_race_37 (by decide) (fun hc => ?_) (fun hc => ?_)
      · rw [if_neg hc] at h
        refine aw_iload_n (pc := 45) (q := 3) dX12_race_45 rfl ?_
        refine aw_iconst (pc := 46) dX12_race_46 ⟨by decide, by decide⟩ ?_
        refine aw_icmp_ne (pc := 47) (tgt := 55) dX12_race_47 (by decide) (fun hc => ?_) (fun hc => ?_)
        · rw [if_neg hc] at h
          refine aw_iconst (pc := 55) dX12_race_55 ⟨by decide, by decide⟩ ?_
          refine aw_istore (pc := 56) (ls' := [(4, .inl 0), (0, .inr (.inr 49)), (1, .inl x1), (2, .inl x2), (3, .inl x3)]) dX12_race_56 (by decide) rfl ?_
          refine aw_iconst (pc := 58) dX12_race_58 ⟨by decide, by decide⟩ ?_
          refine aw_istore (pc := 59) (ls' := [(5, .inl 0), (4, .inl 0), (0, .inr (.inr 49)), (1, .inl x1), (2, .inl x2), (3, .inl x3)]) dX12_race_59 (by decide) rfl ?_
          exact aw_sel [2, 1, 0] rfl (w_m_race_61 N d hd  N _ _ _ _ _ h)
        · rw [if_pos hc] at h
          refine aw_aload_n (pc := 50) (q := 0) dX12_race_50 rfl ?_
          refine aw_getf (pc := 51) (v := .inl (w3 49 31)) dX12_race_51 fl_RX12_301 (by decide) rfl rfl rfl ?_
          cases h
          exact aw_iret (pc := 54) rfl dX12_race_54
      · rw [if_pos hc] at h
        refine aw_aload_n (pc := 40) (q := 0) dX12_race_40 rfl ?_
        obtain ⟨r4, w4, h4, h⟩ := aw_b2s h
        refine aw_callV (pc := 41) (as := []) (st := []) (st' := [.inl r4]) dX12_race_41 cv_RX12_320 (by decide) rfl rfl rfl rfl (Nat.le_of_ble_eq_true rfl) (w_m_winner N d (by omega) _ _ _ h4) rfl ?_
        cases h
        exact aw_iret (pc := 44) rfl dX12_race_44
    · rw [if_pos hc] at h
      exact aw_sel [] rfl (w_m_race_26 N d hd  _ _ _ h)
theorem w_m_race {l : Launch} {K : aw_K} (N d : Nat) (hd : 130 ≤ d) : ∀ (x1 x2 x3 : Int) (w : aw_W) (y : Int) (v : aw_W), m_race N x1 x2 x3 w = some (y, v) → aw_Met l K MX12_race (d) [.inr (.inr 49), .inl x1, .inl x2, .inl x3] w (some (.inl y), v) := by
  obtain ⟨e, rfl⟩ : ∃ e, d = e + 1 := ⟨d - 1, by omega⟩
  exact w_m_race_d N e (by omega)
theorem dX12_rowMany_0 : decode cX12_rowMany 0 = .ok (.iconst 1, 1) := by decide +kernel
theorem dX12_rowMany_1 : decode cX12_rowMany 1 = .ok (.istore_n 1, 1) := by decide +kernel
theorem dX12_rowMany_2 : decode cX12_rowMany 2 = .ok (.iconst 0, 1) := by decide +kernel
theorem dX12_rowMany_3 : decode cX12_rowMany 3 = .ok (.istore_n 2, 1) := by decide +kernel
theorem dX12_rowMany_4 : decode cX12_rowMany 4 = .ok (.iload_n 2, 1) := by decide +kernel
theorem dX12_rowMany_5 : decode cX12_rowMany 5 = .ok (.aload_n 0, 1) := by decide +kernel
theorem dX12_rowMany_6 : decode cX12_rowMany 6 = .ok (.getfield 270, 3) := by decide +kernel
theorem dX12_rowMany_9 : decode cX12_rowMany 9 = .ok (.if_icmp .ge 14, 3) := by decide +kernel
theorem dX12_rowMany_12 : decode cX12_rowMany 12 = .ok (.iload_n 1, 1) := by decide +kernel
theorem dX12_rowMany_13 : decode cX12_rowMany 13 = .ok (.bipush 10, 2) := by decide +kernel
theorem dX12_rowMany_15 : decode cX12_rowMany 15 = .ok (.imul, 1) := by decide +kernel
theorem dX12_rowMany_16 : decode cX12_rowMany 16 = .ok (.istore_n 1, 1) := by decide +kernel
theorem dX12_rowMany_17 : decode cX12_rowMany 17 = .ok (.iinc 2 1, 3) := by decide +kernel
theorem dX12_rowMany_20 : decode cX12_rowMany 20 = .ok (.goto (-16), 3) := by decide +kernel
theorem dX12_rowMany_23 : decode cX12_rowMany 23 = .ok (.iload_n 1, 1) := by decide +kernel
theorem dX12_rowMany_24 : decode cX12_rowMany 24 = .ok (.ireturn, 1) := by decide +kernel
def m_rowMany_23 (N : Nat) (x1 : Int) (w : aw_W) : Option (Int × aw_W) :=
  some (x1, w)
theorem w_m_rowMany_23 {l : Launch} {K : aw_K} (N d : Nat) : ∀ (x1 : Int) (w : aw_W) (y : Int) (v : aw_W), m_rowMany_23 N x1 w = some (y, v) → aw_AW l K MX12_rowMany (d) 23 [(1, .inl x1)] [] w (some (.inl y), v) := by
  intro x1 w y v h
  unfold m_rowMany_23 at h
  refine aw_iload_n (pc := 23) (q := 0) dX12_rowMany_23 rfl ?_
  cases h
  exact aw_iret (pc := 24) rfl dX12_rowMany_24
def m_rowMany_4 (N : Nat) : Nat → Int → Int → aw_W → Option (Int × aw_W)
  | 0, _, _, _ => none
  | n + 1, x1, x2, w =>
    if (w 49 22) ≤ x2 then
      m_rowMany_23 N x1 w
    else
      m_rowMany_4 N n (aw_w (x1 * 10)) (aw_w (x2 + 1)) w
theorem w_m_rowMany_4 {l : Launch} {K : aw_K} (N d : Nat) : ∀ (n : Nat) (x1 x2 : Int) (w : aw_W) (y : Int) (v : aw_W), m_rowMany_4 N n x1 x2 w = some (y, v) → aw_AW l K MX12_rowMany (d) 4 [(0, .inr (.inr 49)), (1, .inl x1), (2, .inl x2)] [] w (some (.inl y), v) := by
  intro n
  induction n with
  | zero => intro x1 x2 w y v h; rw [m_rowMany_4] at h; cases h
  | succ n ih =>
    intro x1 x2 w y v h
    rw [m_rowMany_4] at h
    refine aw_iload_n (pc := 4) (q := 2) dX12_rowMany_4 rfl ?_
    refine aw_aload_n (pc := 5) (q := 0) dX12_rowMany_5 rfl ?_
    refine aw_getf (pc := 6) (v := .inl (w 49 22)) dX12_rowMany_6 fl_RX12_270 (by decide) rfl rfl rfl ?_
    refine aw_icmp_ge (pc := 9) (tgt := 23) dX12_rowMany_9 (by decide) (fun hc => ?_) (fun hc => ?_)
    · rw [if_pos hc] at h
      exact aw_sel [1] rfl (w_m_rowMany_23 N d  _ _ _ _ h)
    · rw [if_neg hc] at h
      refine aw_iload_n (pc := 12) (q := 1) dX12_rowMany_12 rfl ?_
      refine aw_bipush (pc := 13) dX12_rowMany_13 (by decide) ⟨by decide, by decide⟩ ?_
      refine aw_imul (pc := 15) dX12_rowMany_15 ?_
      refine aw_istore_n (pc := 16) (ls' := [(1, .inl (aw_w (x1 * 10))), (0, .inr (.inr 49)), (2, .inl x2)]) dX12_rowMany_16 (by decide) rfl ?_
      refine aw_iinc (pc := 17) (q := 2) (ls' := [(2, .inl (aw_w (x2 + 1))), (1, .inl (aw_w (x1 * 10))), (0, .inr (.inr 49))]) dX12_rowMany_17 rfl (by decide) rfl ?_
      refine aw_goto (pc := 20) (tgt := 4) dX12_rowMany_20 (by decide) ?_
      exact aw_sel [2, 1, 0] rfl (ih _ _ _ _ _ h)
def m_rowMany (N : Nat) (w : aw_W) : Option (Int × aw_W) :=
  m_rowMany_4 N N 1 0 w
theorem w_m_rowMany {l : Launch} {K : aw_K} (N d : Nat) (hd : 0 ≤ d) : ∀ (w : aw_W) (y : Int) (v : aw_W), m_rowMany N w = some (y, v) → aw_Met l K MX12_rowMany (d) [.inr (.inr 49)] w (some (.inl y), v) := by
  intro w y v h
  unfold m_rowMany at h
  refine aw_enter rfl (Nat.le_of_ble_eq_true rfl) ?_
  show aw_AW l K MX12_rowMany (d) 0 [(0, .inr (.inr 49))] [] w (some (.inl y), v)
  refine aw_iconst (pc := 0) dX12_rowMany_0 ⟨by decide, by decide⟩ ?_
  refine aw_istore_n (pc := 1) (ls' := [(1, .inl 1), (0, .inr (.inr 49))]) dX12_rowMany_1 (by decide) rfl ?_
  refine aw_iconst (pc := 2) dX12_rowMany_2 ⟨by decide, by decide⟩ ?_
  refine aw_istore_n (pc := 3) (ls' := [(2, .inl 0), (1, .inl 1), (0, .inr (.inr 49))]) dX12_rowMany_3 (by decide) rfl ?_
  exact aw_sel [2, 1, 0] rfl (w_m_rowMany_4 N d  N _ _ _ _ _ h)
theorem dX12_isRest_0 : decode cX12_isRest 0 = .ok (.iconst 0, 1) := by decide +kernel
theorem dX12_isRest_1 : decode cX12_isRest 1 = .ok (.istore_n 1, 1) := by decide +kernel
theorem dX12_isRest_2 : decode cX12_isRest 2 = .ok (.iload_n 1, 1) := by decide +kernel
theorem dX12_isRest_3 : decode cX12_isRest 3 = .ok (.aload_n 0, 1) := by decide +kernel
theorem dX12_isRest_4 : decode cX12_isRest 4 = .ok (.getfield 270, 3) := by decide +kernel
theorem dX12_isRest_7 : decode cX12_isRest 7 = .ok (.if_icmp .ge 23, 3) := by decide +kernel
theorem dX12_isRest_10 : decode cX12_isRest 10 = .ok (.aload_n 0, 1) := by decide +kernel
theorem dX12_isRest_11 : decode cX12_isRest 11 = .ok (.iload_n 1, 1) := by decide +kernel
theorem dX12_isRest_12 : decode cX12_isRest 12 = .ok (.invokevirtual 357, 3) := by decide +kernel
theorem dX12_isRest_15 : decode cX12_isRest 15 = .ok (.aload_n 0, 1) := by decide +kernel
theorem dX12_isRest_16 : decode cX12_isRest 16 = .ok (.getfield 354, 3) := by decide +kernel
theorem dX12_isRest_19 : decode cX12_isRest 19 = .ok (.ifCond .le 5, 3) := by decide +kernel
theorem dX12_isRest_22 : decode cX12_isRest 22 = .ok (.iconst 0, 1) := by decide +kernel
theorem dX12_isRest_23 : decode cX12_isRest 23 = .ok (.ireturn, 1) := by decide +kernel
theorem dX12_isRest_24 : decode cX12_isRest 24 = .ok (.iinc 1 1, 3) := by decide +kernel
theorem dX12_isRest_27 : decode cX12_isRest 27 = .ok (.goto (-25), 3) := by decide +kernel
theorem dX12_isRest_30 : decode cX12_isRest 30 = .ok (.iconst 1, 1) := by decide +kernel
theorem dX12_isRest_31 : decode cX12_isRest 31 = .ok (.ireturn, 1) := by decide +kernel
def m_isRest_30 (N : Nat) (w : aw_W) : Option (Int × aw_W) :=
  some (1, w)
theorem w_m_isRest_30 {l : Launch} {K : aw_K} (N d : Nat) (hd : 4 ≤ d) : ∀ (w : aw_W) (y : Int) (v : aw_W), m_isRest_30 N w = some (y, v) → aw_AW l K MX12_isRest (d + 1) 30 [] [] w (some (.inl y), v) := by
  intro w y v h
  unfold m_isRest_30 at h
  refine aw_iconst (pc := 30) dX12_isRest_30 ⟨by decide, by decide⟩ ?_
  cases h
  exact aw_zret (pc := 31) rfl (by decide) dX12_isRest_31
def m_isRest_22 (N : Nat) (w : aw_W) : Option (Int × aw_W) :=
  some (0, w)
theorem w_m_isRest_22 {l : Launch} {K : aw_K} (N d : Nat) (hd : 4 ≤ d) : ∀ (w : aw_W) (y : Int) (v : aw_W), m_isRest_22 N w = some (y, v) → aw_AW l K MX12_isRest (d + 1) 22 [] [] w (some (.inl y), v) := by
  intro w y v h
  unfold m_isRest_22 at h
  refine aw_iconst (pc := 22) dX12_isRest_22 ⟨by decide, by decide⟩ ?_
  cases h
  exact aw_zret (pc := 23) rfl (by decide) dX12_isRest_23
def m_isRest_2 (N : Nat) : Nat → Int → aw_W → Option (Int × aw_W)
  | 0, _, _ => none
  | n + 1, x1, w =>
    if (w 49 22) ≤ x1 then
      m_isRest_30 N w
    else
      aw_b1 (m_layBest N x1 w) fun w1 =>
        if (w1 49 35) ≤ 0 then
          m_isRest_2 N n (aw_w (x1 + 1)) w1
        else
          m_isRest_22 N w1
theorem w_m_isRest_2 {l : Launch} {K : aw_K} (N d : Nat) (hd : 4 ≤ d) : ∀ (n : Nat) (x1 : Int) (w : aw_W) (y : Int) (v : aw_W), m_isRest_2 N n x1 w = some (y, v) → aw_AW l K MX12_isRest (d + 1) 2 [(0, .inr (.inr 49)), (1, .inl x1)] [] w (some (.inl y), v) := by
  intro n
  induction n with
  | zero => intro x1 w y v h; rw [m_isRest_2] at h; cases h
  | succ n ih =>
    intro x1 w y v h
    rw [m_isRest_2] at h
    refine aw_iload_n (pc := 2) (q := 1) dX12_isRest_2 rfl ?_
    refine aw_aload_n (pc := 3) (q := 0) dX12_isRest_3 rfl ?_
    refine aw_getf (pc := 4) (v := .inl (w 49 22)) dX12_isRest_4 fl_RX12_270 (by decide) rfl rfl rfl ?_
    refine aw_icmp_ge (pc := 7) (tgt := 30) dX12_isRest_7 (by decide) (fun hc => ?_) (fun hc => ?_)
    · rw [if_pos hc] at h
      exact aw_sel [] rfl (w_m_isRest_30 N d hd  _ _ _ h)
    · rw [if_neg hc] at h
      refine aw_aload_n (pc := 10) (q := 0) dX12_isRest_10 rfl ?_
      refine aw_iload_n (pc := 11) (q := 1) dX12_isRest_11 rfl ?_
      obtain ⟨w1, h1, h⟩ := aw_b1s h
      refine aw_callV (pc := 12) (as := [.inl x1]) (st := []) (st' := []) dX12_isRest_12 cv_RX12_357 (by decide) rfl rfl rfl rfl (Nat.le_of_ble_eq_true rfl) (w_m_layBest N d (by omega) _ _ _ h1) rfl ?_
      refine aw_aload_n (pc := 15) (q := 0) dX12_isRest_15 rfl ?_
      refine aw_getf (pc := 16) (v := .inl (w1 49 35)) dX12_isRest_16 fl_RX12_354 (by decide) rfl rfl rfl ?_
      refine aw_if_le (pc := 19) (tgt := 24) dX12_isRest_19 (by decide) (fun hc => ?_) (fun hc => ?_)
      · rw [if_pos hc] at h
        refine aw_iinc (pc := 24) (q := 1) (ls' := [(1, .inl (aw_w (x1 + 1))), (0, .inr (.inr 49))]) dX12_isRest_24 rfl (by decide) rfl ?_
        refine aw_goto (pc := 27) (tgt := 2) dX12_isRest_27 (by decide) ?_
        exact aw_sel [1, 0] rfl (ih _ _ _ _ h)
      · rw [if_neg hc] at h
        exact aw_sel [] rfl (w_m_isRest_22 N d hd  _ _ _ h)
def m_isRest (N : Nat) (w : aw_W) : Option (Int × aw_W) :=
  m_isRest_2 N N 0 w
theorem w_m_isRest_d {l : Launch} {K : aw_K} (N d : Nat) (hd : 4 ≤ d) : ∀ (w : aw_W) (y : Int) (v : aw_W), m_isRest N w = some (y, v) → aw_Met l K MX12_isRest (d + 1) [.inr (.inr 49)] w (some (.inl y), v) := by
  intro w y v h
  unfold m_isRest at h
  refine aw_enter rfl (Nat.le_of_ble_eq_true rfl) ?_
  show aw_AW l K MX12_isRest (d + 1) 0 [(0, .inr (.inr 49))] [] w (some (.inl y), v)
  refine aw_iconst (pc := 0) dX12_isRest_0 ⟨by decide, by decide⟩ ?_
  refine aw_istore_n (pc := 1) (ls' := [(1, .inl 0), (0, .inr (.inr 49))]) dX12_isRest_1 (by decide) rfl ?_
  exact aw_sel [1, 0] rfl (w_m_isRest_2 N d hd  N _ _ _ _ h)
theorem w_m_isRest {l : Launch} {K : aw_K} (N d : Nat) (hd : 5 ≤ d) : ∀ (w : aw_W) (y : Int) (v : aw_W), m_isRest N w = some (y, v) → aw_Met l K MX12_isRest (d) [.inr (.inr 49)] w (some (.inl y), v) := by
  obtain ⟨e, rfl⟩ : ∃ e, d = e + 1 := ⟨d - 1, by omega⟩
  exact w_m_isRest_d N e (by omega)
theorem dX12_rests_0 : decode cX12_rests 0 = .ok (.aload_n 0, 1) := by decide +kernel
theorem dX12_rests_1 : decode cX12_rests 1 = .ok (.iconst 0, 1) := by decide +kernel
theorem dX12_rests_2 : decode cX12_rests 2 = .ok (.putfield 99, 3) := by decide +kernel
theorem dX12_rests_5 : decode cX12_rests 5 = .ok (.aload_n 0, 1) := by decide +kernel
theorem dX12_rests_6 : decode cX12_rests 6 = .ok (.invokevirtual 360, 3) := by decide +kernel
theorem dX12_rests_9 : decode cX12_rests 9 = .ok (.ifCond .ne 7, 3) := by decide +kernel
theorem dX12_rests_12 : decode cX12_rests 12 = .ok (.ldc_w 315, 3) := by decide +kernel
theorem dX12_rests_15 : decode cX12_rests 15 = .ok (.ireturn, 1) := by decide +kernel
theorem dX12_rests_16 : decode cX12_rests 16 = .ok (.iconst 0, 1) := by decide +kernel
theorem dX12_rests_17 : decode cX12_rests 17 = .ok (.istore_n 2, 1) := by decide +kernel
theorem dX12_rests_18 : decode cX12_rests 18 = .ok (.iconst 0, 1) := by decide +kernel
theorem dX12_rests_19 : decode cX12_rests 19 = .ok (.istore_n 3, 1) := by decide +kernel
theorem dX12_rests_20 : decode cX12_rests 20 = .ok (.iload_n 3, 1) := by decide +kernel
theorem dX12_rests_21 : decode cX12_rests 21 = .ok (.aload_n 0, 1) := by decide +kernel
theorem dX12_rests_22 : decode cX12_rests 22 = .ok (.invokevirtual 363, 3) := by decide +kernel
theorem dX12_rests_25 : decode cX12_rests 25 = .ok (.if_icmp .ge 37, 3) := by decide +kernel
theorem dX12_rests_28 : decode cX12_rests 28 = .ok (.aload_n 0, 1) := by decide +kernel
theorem dX12_rests_29 : decode cX12_rests 29 = .ok (.iload_n 3, 1) := by decide +kernel
theorem dX12_rests_30 : decode cX12_rests 30 = .ok (.invokevirtual 342, 3) := by decide +kernel
theorem dX12_rests_33 : decode cX12_rests 33 = .ok (.ifCond .eq 23, 3) := by decide +kernel
theorem dX12_rests_36 : decode cX12_rests 36 = .ok (.aload_n 0, 1) := by decide +kernel
theorem dX12_rests_37 : decode cX12_rests 37 = .ok (.invokevirtual 366, 3) := by decide +kernel
theorem dX12_rests_40 : decode cX12_rests 40 = .ok (.ifCond .ne 6, 3) := by decide +kernel
theorem dX12_rests_43 : decode cX12_rests 43 = .ok (.goto 13, 3) := by decide +kernel
theorem dX12_rests_46 : decode cX12_rests 46 = .ok (.iload_n 2, 1) := by decide +kernel
theorem dX12_rests_47 : decode cX12_rests 47 = .ok (.iload_n 1, 1) := by decide +kernel
theorem dX12_rests_48 : decode cX12_rests 48 = .ok (.if_icmp .ne 5, 3) := by decide +kernel
theorem dX12_rests_51 : decode cX12_rests 51 = .ok (.iload_n 3, 1) := by decide +kernel
theorem dX12_rests_52 : decode cX12_rests 52 = .ok (.ireturn, 1) := by decide +kernel
theorem dX12_rests_53 : decode cX12_rests 53 = .ok (.iinc 2 1, 3) := by decide +kernel
theorem dX12_rests_56 : decode cX12_rests 56 = .ok (.iinc 3 1, 3) := by decide +kernel
theorem dX12_rests_59 : decode cX12_rests 59 = .ok (.goto (-39), 3) := by decide +kernel
theorem dX12_rests_62 : decode cX12_rests 62 = .ok (.iload_n 1, 1) := by decide +kernel
theorem dX12_rests_63 : decode cX12_rests 63 = .ok (.iconst (-1), 1) := by decide +kernel
theorem dX12_rests_64 : decode cX12_rests 64 = .ok (.if_icmp .ne 7, 3) := by decide +kernel
theorem dX12_rests_67 : decode cX12_rests 67 = .ok (.iload_n 2, 1) := by decide +kernel
theorem dX12_rests_68 : decode cX12_rests 68 = .ok (.goto 4, 3) := by decide +kernel
theorem dX12_rests_71 : decode cX12_rests 71 = .ok (.iconst (-1), 1) := by decide +kernel
theorem dX12_rests_72 : decode cX12_rests 72 = .ok (.ireturn, 1) := by decide +kernel
def m_rests_72 (N : Nat) (s0 : Int) (w : aw_W) : Option (Int × aw_W) :=
  some (s0, w)
theorem w_m_rests_72 {l : Launch} {K : aw_K} (N d : Nat) (hd : 5 ≤ d) : ∀ (s0 : Int) (w : aw_W) (y : Int) (v : aw_W), m_rests_72 N s0 w = some (y, v) → aw_AW l K MX12_rests (d + 1) 72 [] [.inl s0] w (some (.inl y), v) := by
  intro s0 w y v h
  unfold m_rests_72 at h
  cases h
  exact aw_iret (pc := 72) rfl dX12_rests_72
def m_rests_62 (N : Nat) (x1 x2 : Int) (w : aw_W) : Option (Int × aw_W) :=
  if x1 = (-1) then
    m_rests_72 N x2 w
  else
    m_rests_72 N (-1) w
theorem w_m_rests_62 {l : Launch} {K : aw_K} (N d : Nat) (hd : 5 ≤ d) : ∀ (x1 x2 : Int) (w : aw_W) (y : Int) (v : aw_W), m_rests_62 N x1 x2 w = some (y, v) → aw_AW l K MX12_rests (d + 1) 62 [(1, .inl x1), (2, .inl x2)] [] w (some (.inl y), v) := by
  intro x1 x2 w y v h
  unfold m_rests_62 at h
  refine aw_iload_n (pc := 62) (q := 0) dX12_rests_62 rfl ?_
  refine aw_iconst (pc := 63) dX12_rests_63 ⟨by decide, by decide⟩ ?_
  refine aw_icmp_ne (pc := 64) (tgt := 71) dX12_rests_64 (by decide) (fun hc => ?_) (fun hc => ?_)
  · rw [if_neg hc] at h
    refine aw_iconst (pc := 71) dX12_rests_71 ⟨by decide, by decide⟩ ?_
    exact aw_sel [] rfl (w_m_rests_72 N d hd  _ _ _ _ h)
  · rw [if_pos hc] at h
    refine aw_iload_n (pc := 67) (q := 1) dX12_rests_67 rfl ?_
    refine aw_goto (pc := 68) (tgt := 72) dX12_rests_68 (by decide) ?_
    exact aw_sel [] rfl (w_m_rests_72 N d hd  _ _ _ _ h)
def m_rests_56 (N : Nat) (k20 : Int → Int → Int → aw_W → Option (Int × aw_W)) (x1 x2 x3 : Int) (w : aw_W) : Option (Int × aw_W) :=
  k20 x1 x2 (aw_w (x3 + 1)) w
theorem w_m_rests_56 {l : Launch} {K : aw_K} (N d : Nat) (hd : 5 ≤ d) (k20 : Int → Int → Int → aw_W → Option (Int × aw_W)) (hk20 : ∀ (x1 x2 x3 : Int) (w : aw_W) (y : Int) (v : aw_W), k20 x1 x2 x3 w = some (y, v) → aw_AW l K MX12_rests (d + 1) 20 [(0, .inr (.inr 49)), (1, .inl x1), (2, .inl x2), (3, .inl x3)] [] w (some (.inl y), v)) : ∀ (x1 x2 x3 : Int) (w : aw_W) (y : Int) (v : aw_W), m_rests_56 N k20 x1 x2 x3 w = some (y, v) → aw_AW l K MX12_rests (d + 1) 56 [(0, .inr (.inr 49)), (1, .inl x1), (2, .inl x2), (3, .inl x3)] [] w (some (.inl y), v) := by
  intro x1 x2 x3 w y v h
  unfold m_rests_56 at h
  refine aw_iinc (pc := 56) (q := 3) (ls' := [(3, .inl (aw_w (x3 + 1))), (0, .inr (.inr 49)), (1, .inl x1), (2, .inl x2)]) dX12_rests_56 rfl (by decide) rfl ?_
  refine aw_goto (pc := 59) (tgt := 20) dX12_rests_59 (by decide) ?_
  exact aw_sel [1, 2, 3, 0] rfl (hk20 _ _ _ _ _ _ h)
def m_rests_51 (N : Nat) (x3 : Int) (w : aw_W) : Option (Int × aw_W) :=
  some (x3, w)
theorem w_m_rests_51 {l : Launch} {K : aw_K} (N d : Nat) (hd : 5 ≤ d) : ∀ (x3 : Int) (w : aw_W) (y : Int) (v : aw_W), m_rests_51 N x3 w = some (y, v) → aw_AW l K MX12_rests (d + 1) 51 [(3, .inl x3)] [] w (some (.inl y), v) := by
  intro x3 w y v h
  unfold m_rests_51 at h
  refine aw_iload_n (pc := 51) (q := 0) dX12_rests_51 rfl ?_
  cases h
  exact aw_iret (pc := 52) rfl dX12_rests_52
def m_rests_20 (N : Nat) : Nat → Int → Int → Int → aw_W → Option (Int × aw_W)
  | 0, _, _, _, _ => none
  | n + 1, x1, x2, x3, w =>
    aw_b2 (m_rowMany N w) fun r1 w1 =>
      if r1 ≤ x3 then
        m_rests_62 N x1 x2 w1
      else
        aw_b2 (m_lay N x3 w1) fun r2 w2 =>
          if r2 = 0 then
            m_rests_56 N (m_rests_20 N n) x1 x2 x3 w2
          else
            aw_b2 (m_isRest N w2) fun r3 w3 =>
              if r3 = 0 then
                m_rests_56 N (m_rests_20 N n) x1 x2 x3 w3
              else
                if x2 = x1 then
                  m_rests_51 N x3 w3
                else
                  m_rests_56 N (m_rests_20 N n) x1 (aw_w (x2 + 1)) x3 w3
theorem w_m_rests_20 {l : Launch} {K : aw_K} (N d : Nat) (hd : 5 ≤ d) : ∀ (n : Nat) (x1 x2 x3 : Int) (w : aw_W) (y : Int) (v : aw_W), m_rests_20 N n x1 x2 x3 w = some (y, v) → aw_AW l K MX12_rests (d + 1) 20 [(0, .inr (.inr 49)), (1, .inl x1), (2, .inl x2), (3, .inl x3)] [] w (some (.inl y), v) := by
  intro n
  induction n with
  | zero => intro x1 x2 x3 w y v h; rw [m_rests_20] at h; cases h
  | succ n ih =>
    intro x1 x2 x3 w y v h
    rw [m_rests_20] at h
    refine aw_iload_n (pc := 20) (q := 3) dX12_rests_20 rfl ?_
    refine aw_aload_n (pc := 21) (q := 0) dX12_rests_21 rfl ?_
    obtain ⟨r1, w1, h1, h⟩ := aw_b2s h
    refine aw_callV (pc := 22) (as := []) (st := [.inl x3]) (st' := [.inl r1, .inl x3]) dX12_rests_22 cv_RX12_363 (by decide) rfl rfl rfl rfl (Nat.le_of_ble_eq_true rfl) (w_m_rowMany N d (by omega) _ _ _ h1) rfl ?_
    refine aw_icmp_ge (pc := 25) (tgt := 62) dX12_rests_25 (by decide) (fun hc => ?_) (fun hc => ?_)
    · rw [if_pos hc] at h
      exact aw_sel [1, 2] rfl (w_m_rests_62 N d hd  _ _ _ _ _ h)
    · rw [if_neg hc] at h
      refine aw_aload_n (pc := 28) (q := 0) dX12_rests_28 rfl ?_
      refine aw_iload_n (pc := 29) (q := 3) dX12_rests_29 rfl ?_
      obtain ⟨r2, w2, h2, h⟩ := aw_b2s h
      refine aw_callV (pc := 30) (as := [.inl x3]) (st := []) (st' := [.inl r2]) dX12_rests_30 cv_RX12_342 (by decide) rfl rfl rfl rfl (Nat.le_of_ble_eq_true rfl) (w_m_lay N d (by omega) _ _ _ _ h2) rfl ?_
      refine aw_if_eq (pc := 33) (tgt := 56) dX12_rests_33 (by decide) (fun hc => ?_) (fun hc => ?_)
      · rw [if_pos hc] at h
        exact aw_sel [0, 1, 2, 3] rfl (w_m_rests_56 N d hd  _ ih _ _ _ _ _ _ h)
      · rw [if_neg hc] at h
        refine aw_aload_n (pc := 36) (q := 0) dX12_rests_36 rfl ?_
        obtain ⟨r3, w3, h3, h⟩ := aw_b2s h
        refine aw_callV (pc := 37) (as := []) (st := []) (st' := [.inl r3]) dX12_rests_37 cv_RX12_366 (by decide) rfl rfl rfl rfl (Nat.le_of_ble_eq_true rfl) (w_m_isRest N d (by omega) _ _ _ h3) rfl ?_
        refine aw_if_ne (pc := 40) (tgt := 46) dX12_rests_40 (by decide) (fun hc => ?_) (fun hc => ?_)
        · rw [if_neg hc] at h
          refine aw_iload_n (pc := 46) (q := 2) dX12_rests_46 rfl ?_
          refine aw_iload_n (pc := 47) (q := 1) dX12_rests_47 rfl ?_
          refine aw_icmp_ne (pc := 48) (tgt := 53) dX12_rests_48 (by decide) (fun hc => ?_) (fun hc => ?_)
          · rw [if_neg hc] at h
            refine aw_iinc (pc := 53) (q := 2) (ls' := [(2, .inl (aw_w (x2 + 1))), (0, .inr (.inr 49)), (1, .inl x1), (3, .inl x3)]) dX12_rests_53 rfl (by decide) rfl ?_
            exact aw_sel [1, 2, 0, 3] rfl (w_m_rests_56 N d hd  _ ih _ _ _ _ _ _ h)
          · rw [if_pos hc] at h
            exact aw_sel [3] rfl (w_m_rests_51 N d hd  _ _ _ _ h)
        · rw [if_pos hc] at h
          refine aw_goto (pc := 43) (tgt := 56) dX12_rests_43 (by decide) ?_
          exact aw_sel [0, 1, 2, 3] rfl (w_m_rests_56 N d hd  _ ih _ _ _ _ _ _ h)
def m_rests (N : Nat) (x1 : Int) (w : aw_W) : Option (Int × aw_W) :=
  aw_b2 (m_areFew N (aw_up w 49 0 0)) fun r1 w1 =>
    if r1 = 0 then
      some ((-1000000), w1)
    else
      m_rests_20 N N x1 0 0 w1
theorem w_m_rests_d {l : Launch} {K : aw_K} (N d : Nat) (hd : 5 ≤ d) : ∀ (x1 : Int) (w : aw_W) (y : Int) (v : aw_W), m_rests N x1 w = some (y, v) → aw_Met l K MX12_rests (d + 1) [.inr (.inr 49), .inl x1] w (some (.inl y), v) := by
  intro x1 w y v h
  unfold m_rests at h
  refine aw_enter rfl (Nat.le_of_ble_eq_true rfl) ?_
  show aw_AW l K MX12_rests (d + 1) 0 [(0, .inr (.inr 49)), (1, .inl x1)] [] w (some (.inl y), v)
  refine aw_aload_n (pc := 0) (q := 0) dX12_rests_0 rfl ?_
  refine aw_iconst (pc := 1) dX12_rests_1 ⟨by decide, by decide⟩ ?_
  refine aw_puti (pc := 2) dX12_rests_2 fp_RX12_99 (by decide) rfl rfl ?_
  refine aw_aload_n (pc := 5) (q := 0) dX12_rests_5 rfl ?_
  obtain ⟨r1, w1, h1, h⟩ := aw_b2s h
  refine aw_callV (pc := 6) (as := []) (st := []) (st' := [.inl r1]) dX12_rests_6 cv_RX12_360 (by decide) rfl rfl rfl rfl (Nat.le_of_ble_eq_true rfl) (w_m_areFew N d (by omega) _ _ _ h1) rfl ?_
  refine aw_if_ne (pc := 9) (tgt := 16) dX12_rests_9 (by decide) (fun hc => ?_) (fun hc => ?_)
  · rw [if_neg hc] at h
    refine aw_iconst (pc := 16) dX12_rests_16 ⟨by decide, by decide⟩ ?_
    refine aw_istore_n (pc := 17) (ls' := [(2, .inl 0), (0, .inr (.inr 49)), (1, .inl x1)]) dX12_rests_17 (by decide) rfl ?_
    refine aw_iconst (pc := 18) dX12_rests_18 ⟨by decide, by decide⟩ ?_
    refine aw_istore_n (pc := 19) (ls' := [(3, .inl 0), (2, .inl 0), (0, .inr (.inr 49)), (1, .inl x1)]) dX12_rests_19 (by decide) rfl ?_
    exact aw_sel [2, 3, 1, 0] rfl (w_m_rests_20 N d hd  N _ _ _ _ _ _ h)
  · rw [if_pos hc] at h
    refine aw_ldcw (pc := 12) (x := (-1000000)) dX12_rests_12 cn_RX12_315 ⟨by decide, by decide⟩ ?_
    cases h
    exact aw_iret (pc := 15) rfl dX12_rests_15
theorem w_m_rests {l : Launch} {K : aw_K} (N d : Nat) (hd : 6 ≤ d) : ∀ (x1 : Int) (w : aw_W) (y : Int) (v : aw_W), m_rests N x1 w = some (y, v) → aw_Met l K MX12_rests (d) [.inr (.inr 49), .inl x1] w (some (.inl y), v) := by
  obtain ⟨e, rfl⟩ : ∃ e, d = e + 1 := ⟨d - 1, by omega⟩
  exact w_m_rests_d N e (by omega)
theorem dX12_rowOf_0 : decode cX12_rowOf 0 = .ok (.iconst 0, 1) := by decide +kernel
theorem dX12_rowOf_1 : decode cX12_rowOf 1 = .ok (.istore_n 1, 1) := by decide +kernel
theorem dX12_rowOf_2 : decode cX12_rowOf 2 = .ok (.iconst 0, 1) := by decide +kernel
theorem dX12_rowOf_3 : decode cX12_rowOf 3 = .ok (.istore_n 2, 1) := by decide +kernel
theorem dX12_rowOf_4 : decode cX12_rowOf 4 = .ok (.iload_n 2, 1) := by decide +kernel
theorem dX12_rowOf_5 : decode cX12_rowOf 5 = .ok (.aload_n 0, 1) := by decide +kernel
theorem dX12_rowOf_6 : decode cX12_rowOf 6 = .ok (.getfield 270, 3) := by decide +kernel
theorem dX12_rowOf_9 : decode cX12_rowOf 9 = .ok (.if_icmp .ge 21, 3) := by decide +kernel
theorem dX12_rowOf_12 : decode cX12_rowOf 12 = .ok (.bipush 10, 2) := by decide +kernel
theorem dX12_rowOf_14 : decode cX12_rowOf 14 = .ok (.iload_n 1, 1) := by decide +kernel
theorem dX12_rowOf_15 : decode cX12_rowOf 15 = .ok (.imul, 1) := by decide +kernel
theorem dX12_rowOf_16 : decode cX12_rowOf 16 = .ok (.aload_n 0, 1) := by decide +kernel
theorem dX12_rowOf_17 : decode cX12_rowOf 17 = .ok (.getfield 72, 3) := by decide +kernel
theorem dX12_rowOf_20 : decode cX12_rowOf 20 = .ok (.iload_n 2, 1) := by decide +kernel
theorem dX12_rowOf_21 : decode cX12_rowOf 21 = .ok (.iaload, 1) := by decide +kernel
theorem dX12_rowOf_22 : decode cX12_rowOf 22 = .ok (.iadd, 1) := by decide +kernel
theorem dX12_rowOf_23 : decode cX12_rowOf 23 = .ok (.istore_n 1, 1) := by decide +kernel
theorem dX12_rowOf_24 : decode cX12_rowOf 24 = .ok (.iinc 2 1, 3) := by decide +kernel
theorem dX12_rowOf_27 : decode cX12_rowOf 27 = .ok (.goto (-23), 3) := by decide +kernel
theorem dX12_rowOf_30 : decode cX12_rowOf 30 = .ok (.iload_n 1, 1) := by decide +kernel
theorem dX12_rowOf_31 : decode cX12_rowOf 31 = .ok (.ireturn, 1) := by decide +kernel
def m_rowOf_30 (N : Nat) (x1 : Int) (w : aw_W) : Option (Int × aw_W) :=
  some (x1, w)
theorem w_m_rowOf_30 {l : Launch} {K : aw_K} (N d : Nat) : ∀ (x1 : Int) (w : aw_W) (y : Int) (v : aw_W), m_rowOf_30 N x1 w = some (y, v) → aw_AW l K MX12_rowOf (d) 30 [(1, .inl x1)] [] w (some (.inl y), v) := by
  intro x1 w y v h
  unfold m_rowOf_30 at h
  refine aw_iload_n (pc := 30) (q := 0) dX12_rowOf_30 rfl ?_
  cases h
  exact aw_iret (pc := 31) rfl dX12_rowOf_31
def m_rowOf_4 (N : Nat) : Nat → Int → Int → aw_W → Option (Int × aw_W)
  | 0, _, _, _ => none
  | n + 1, x1, x2, w =>
    if (w 49 22) ≤ x2 then
      m_rowOf_30 N x1 w
    else
      if 0 ≤ x2 ∧ x2 < 6 then
        m_rowOf_4 N n (aw_w ((aw_w (10 * x1)) + (w 64 x2.toNat))) (aw_w (x2 + 1)) w
      else none
theorem w_m_rowOf_4 {l : Launch} {K : aw_K} (N d : Nat) : ∀ (n : Nat) (x1 x2 : Int) (w : aw_W) (y : Int) (v : aw_W), m_rowOf_4 N n x1 x2 w = some (y, v) → aw_AW l K MX12_rowOf (d) 4 [(0, .inr (.inr 49)), (1, .inl x1), (2, .inl x2)] [] w (some (.inl y), v) := by
  intro n
  induction n with
  | zero => intro x1 x2 w y v h; rw [m_rowOf_4] at h; cases h
  | succ n ih =>
    intro x1 x2 w y v h
    rw [m_rowOf_4] at h
    refine aw_iload_n (pc := 4) (q := 2) dX12_rowOf_4 rfl ?_
    refine aw_aload_n (pc := 5) (q := 0) dX12_rowOf_5 rfl ?_
    refine aw_getf (pc := 6) (v := .inl (w 49 22)) dX12_rowOf_6 fl_RX12_270 (by decide) rfl rfl rfl ?_
    refine aw_icmp_ge (pc := 9) (tgt := 30) dX12_rowOf_9 (by decide) (fun hc => ?_) (fun hc => ?_)
    · rw [if_pos hc] at h
      exact aw_sel [1] rfl (w_m_rowOf_30 N d  _ _ _ _ h)
    · rw [if_neg hc] at h
      refine aw_bipush (pc := 12) dX12_rowOf_12 (by decide) ⟨by decide, by decide⟩ ?_
      refine aw_iload_n (pc := 14) (q := 1) dX12_rowOf_14 rfl ?_
      refine aw_imul (pc := 15) dX12_rowOf_15 ?_
      refine aw_aload_n (pc := 16) (q := 0) dX12_rowOf_16 rfl ?_
      refine aw_getf (pc := 17) (v := .inr (.inr 64)) dX12_rowOf_17 fl_RX12_72 (by decide) rfl rfl rfl ?_
      refine aw_iload_n (pc := 20) (q := 2) dX12_rowOf_20 rfl ?_
      obtain ⟨hb, h⟩ := aw_cks h
      refine aw_ialdv (pc := 21) (v := w 64 x2.toNat) dX12_rowOf_21 rfl hb.1 hb.2 rfl ?_
      refine aw_iadd (pc := 22) dX12_rowOf_22 ?_
      refine aw_istore_n (pc := 23) (ls' := [(1, .inl (aw_w ((aw_w (10 * x1)) + (w 64 x2.toNat)))), (0, .inr (.inr 49)), (2, .inl x2)]) dX12_rowOf_23 (by decide) rfl ?_
      refine aw_iinc (pc := 24) (q := 2) (ls' := [(2, .inl (aw_w (x2 + 1))), (1, .inl (aw_w ((aw_w (10 * x1)) + (w 64 x2.toNat)))), (0, .inr (.inr 49))]) dX12_rowOf_24 rfl (by decide) rfl ?_
      refine aw_goto (pc := 27) (tgt := 4) dX12_rowOf_27 (by decide) ?_
      exact aw_sel [2, 1, 0] rfl (ih _ _ _ _ _ h)
def m_rowOf (N : Nat) (w : aw_W) : Option (Int × aw_W) :=
  m_rowOf_4 N N 0 0 w
theorem w_m_rowOf {l : Launch} {K : aw_K} (N d : Nat) (hd : 0 ≤ d) : ∀ (w : aw_W) (y : Int) (v : aw_W), m_rowOf N w = some (y, v) → aw_Met l K MX12_rowOf (d) [.inr (.inr 49)] w (some (.inl y), v) := by
  intro w y v h
  unfold m_rowOf at h
  refine aw_enter rfl (Nat.le_of_ble_eq_true rfl) ?_
  show aw_AW l K MX12_rowOf (d) 0 [(0, .inr (.inr 49))] [] w (some (.inl y), v)
  refine aw_iconst (pc := 0) dX12_rowOf_0 ⟨by decide, by decide⟩ ?_
  refine aw_istore_n (pc := 1) (ls' := [(1, .inl 0), (0, .inr (.inr 49))]) dX12_rowOf_1 (by decide) rfl ?_
  refine aw_iconst (pc := 2) dX12_rowOf_2 ⟨by decide, by decide⟩ ?_
  refine aw_istore_n (pc := 3) (ls' := [(2, .inl 0), (1, .inl 0), (0, .inr (.inr 49))]) dX12_rowOf_3 (by decide) rfl ?_
  exact aw_sel [2, 1, 0] rfl (w_m_rowOf_4 N d  N _ _ _ _ _ h)
