theorem dX12_goesIn_0 : decode cX12_goesIn 0 = .ok (.aload_n 0, 1) := by decide +kernel
theorem dX12_goesIn_1 : decode cX12_goesIn 1 = .ok (.getfield 134, 3) := by decide +kernel
theorem dX12_goesIn_4 : decode cX12_goesIn 4 = .ok (.bipush 6, 2) := by decide +kernel
theorem dX12_goesIn_6 : decode cX12_goesIn 6 = .ok (.if_icmp .ne 8, 3) := by decide +kernel
theorem dX12_goesIn_9 : decode cX12_goesIn 9 = .ok (.aload_n 0, 1) := by decide +kernel
theorem dX12_goesIn_10 : decode cX12_goesIn 10 = .ok (.invokevirtual 137, 3) := by decide +kernel
theorem dX12_goesIn_13 : decode cX12_goesIn 13 = .ok (.ireturn, 1) := by decide +kernel
theorem dX12_goesIn_14 : decode cX12_goesIn 14 = .ok (.aload_n 0, 1) := by decide +kernel
theorem dX12_goesIn_15 : decode cX12_goesIn 15 = .ok (.dup, 1) := by decide +kernel
theorem dX12_goesIn_16 : decode cX12_goesIn 16 = .ok (.getfield 134, 3) := by decide +kernel
theorem dX12_goesIn_19 : decode cX12_goesIn 19 = .ok (.iconst 1, 1) := by decide +kernel
theorem dX12_goesIn_20 : decode cX12_goesIn 20 = .ok (.iadd, 1) := by decide +kernel
theorem dX12_goesIn_21 : decode cX12_goesIn 21 = .ok (.putfield 134, 3) := by decide +kernel
theorem dX12_goesIn_24 : decode cX12_goesIn 24 = .ok (.aload_n 0, 1) := by decide +kernel
theorem dX12_goesIn_25 : decode cX12_goesIn 25 = .ok (.dup, 1) := by decide +kernel
theorem dX12_goesIn_26 : decode cX12_goesIn 26 = .ok (.getfield 122, 3) := by decide +kernel
theorem dX12_goesIn_29 : decode cX12_goesIn 29 = .ok (.iconst 1, 1) := by decide +kernel
theorem dX12_goesIn_30 : decode cX12_goesIn 30 = .ok (.iadd, 1) := by decide +kernel
theorem dX12_goesIn_31 : decode cX12_goesIn 31 = .ok (.putfield 122, 3) := by decide +kernel
theorem dX12_goesIn_34 : decode cX12_goesIn 34 = .ok (.iconst 1, 1) := by decide +kernel
theorem dX12_goesIn_35 : decode cX12_goesIn 35 = .ok (.ireturn, 1) := by decide +kernel
def m_goesIn (N : Nat) (w : aw_W) : Option (Int × aw_W) :=
  if (w 49 12) = 6 then
    aw_b2 (m_fails N w) fun r1 w1 =>
      if r1 = 0 ∨ r1 = 1 then
        some (r1, w1)
      else none
  else
    some (1, (aw_up (aw_up w 49 12 (aw_w ((w 49 12) + 1))) 49 10 (aw_w ((w 49 10) + 1))))
theorem w_m_goesIn_d {l : Launch} {K : aw_K} (N d : Nat) (hd : 0 ≤ d) : ∀ (w : aw_W) (y : Int) (v : aw_W), m_goesIn N w = some (y, v) → aw_Met l K MX12_goesIn (d + 1) [.inr (.inr 49)] w (some (.inl y), v) := by
  intro w y v h
  unfold m_goesIn at h
  refine aw_enter rfl (Nat.le_of_ble_eq_true rfl) ?_
  show aw_AW l K MX12_goesIn (d + 1) 0 [(0, .inr (.inr 49))] [] w (some (.inl y), v)
  refine aw_aload_n (pc := 0) (q := 0) dX12_goesIn_0 rfl ?_
  refine aw_getf (pc := 1) (v := .inl (w 49 12)) dX12_goesIn_1 fl_RX12_134 (by decide) rfl rfl rfl ?_
  refine aw_bipush (pc := 4) dX12_goesIn_4 (by decide) ⟨by decide, by decide⟩ ?_
  refine aw_icmp_ne (pc := 6) (tgt := 14) dX12_goesIn_6 (by decide) (fun hc => ?_) (fun hc => ?_)
  · rw [if_neg hc] at h
    refine aw_aload_n (pc := 14) (q := 0) dX12_goesIn_14 rfl ?_
    refine aw_dup (pc := 15) dX12_goesIn_15 rfl ?_
    refine aw_getf (pc := 16) (v := .inl (w 49 12)) dX12_goesIn_16 fl_RX12_134 (by decide) rfl rfl rfl ?_
    refine aw_iconst (pc := 19) dX12_goesIn_19 ⟨by decide, by decide⟩ ?_
    refine aw_iadd (pc := 20) dX12_goesIn_20 ?_
    refine aw_puti (pc := 21) dX12_goesIn_21 fp_RX12_134 (by decide) rfl rfl ?_
    refine aw_aload_n (pc := 24) (q := 0) dX12_goesIn_24 rfl ?_
    refine aw_dup (pc := 25) dX12_goesIn_25 rfl ?_
    refine aw_getf (pc := 26) (v := .inl (w 49 10)) dX12_goesIn_26 fl_RX12_122 (by decide) rfl rfl rfl ?_
    refine aw_iconst (pc := 29) dX12_goesIn_29 ⟨by decide, by decide⟩ ?_
    refine aw_iadd (pc := 30) dX12_goesIn_30 ?_
    refine aw_puti (pc := 31) dX12_goesIn_31 fp_RX12_122 (by decide) rfl rfl ?_
    refine aw_iconst (pc := 34) dX12_goesIn_34 ⟨by decide, by decide⟩ ?_
    cases h
    exact aw_zret (pc := 35) rfl (by decide) dX12_goesIn_35
  · rw [if_pos hc] at h
    refine aw_aload_n (pc := 9) (q := 0) dX12_goesIn_9 rfl ?_
    obtain ⟨r1, w1, h1, h⟩ := aw_b2s h
    refine aw_callV (pc := 10) (as := []) (st := []) (st' := [.inl r1]) dX12_goesIn_10 cv_RX12_137 (by decide) rfl rfl rfl rfl (Nat.le_of_ble_eq_true rfl) (w_m_fails N d (by omega) _ _ _ h1) rfl ?_
    obtain ⟨hz, h⟩ := aw_cks h
    cases h
    exact aw_zret (pc := 13) rfl hz dX12_goesIn_13
theorem w_m_goesIn {l : Launch} {K : aw_K} (N d : Nat) (hd : 1 ≤ d) : ∀ (w : aw_W) (y : Int) (v : aw_W), m_goesIn N w = some (y, v) → aw_Met l K MX12_goesIn (d) [.inr (.inr 49)] w (some (.inl y), v) := by
  obtain ⟨e, rfl⟩ : ∃ e, d = e + 1 := ⟨d - 1, by omega⟩
  exact w_m_goesIn_d N e (by omega)
theorem dX12_within_0 : decode cX12_within 0 = .ok (.ldc2_w 144, 3) := by decide +kernel
theorem dX12_within_3 : decode cX12_within 3 = .ok (.ldc2_w 146, 3) := by decide +kernel
theorem dX12_within_6 : decode cX12_within 6 = .ok (.lload_n 0, 1) := by decide +kernel
theorem dX12_within_7 : decode cX12_within 7 = .ok (.invokestatic 148, 3) := by decide +kernel
theorem dX12_within_10 : decode cX12_within 10 = .ok (.invokestatic 154, 3) := by decide +kernel
theorem dX12_within_13 : decode cX12_within 13 = .ok (.l2i, 1) := by decide +kernel
theorem dX12_within_14 : decode cX12_within 14 = .ok (.ireturn, 1) := by decide +kernel
def m_within (N : Nat) (x0 : Int) (w : aw_W) : Option (Int × aw_W) :=
  some (aw_w (aw_mxL (-1000000) (aw_mn 1000000 x0)), w)
theorem w_m_within {l : Launch} {K : aw_K} (N d : Nat) (hd : 0 ≤ d) : ∀ (x0 : Int) (w : aw_W) (y : Int) (v : aw_W), m_within N x0 w = some (y, v) → aw_Met l K MX12_within (d) [.inr (.inl x0)] w (some (.inl y), v) := by
  intro x0 w y v h
  unfold m_within at h
  refine aw_enter rfl (Nat.le_of_ble_eq_true rfl) ?_
  show aw_AW l K MX12_within (d) 0 [(0, .inr (.inl x0))] [] w (some (.inl y), v)
  refine aw_ldc2 (pc := 0) (x := (-1000000)) dX12_within_0 cl_RX12_144 ⟨by decide, by decide⟩ ?_
  refine aw_ldc2 (pc := 3) (x := 1000000) dX12_within_3 cl_RX12_146 ⟨by decide, by decide⟩ ?_
  refine aw_lload_n (pc := 6) (q := 0) dX12_within_6 rfl ?_
  refine aw_mminL (pc := 7) dX12_within_7 cm_RX12_148 (Nat.le_of_ble_eq_true rfl) ?_
  refine aw_mmaxL (pc := 10) dX12_within_10 cm_RX12_154 (Nat.le_of_ble_eq_true rfl) ?_
  refine aw_l2i (pc := 13) dX12_within_13 ?_
  cases h
  exact aw_iret (pc := 14) rfl dX12_within_14
theorem dX12_atom_0 : decode cX12_atom 0 = .ok (.aload_n 0, 1) := by decide +kernel
theorem dX12_atom_1 : decode cX12_atom 1 = .ok (.invokevirtual 141, 3) := by decide +kernel
theorem dX12_atom_4 : decode cX12_atom 4 = .ok (.istore_n 1, 1) := by decide +kernel
theorem dX12_atom_5 : decode cX12_atom 5 = .ok (.ldc 32, 2) := by decide +kernel
theorem dX12_atom_7 : decode cX12_atom 7 = .ok (.iload_n 1, 1) := by decide +kernel
theorem dX12_atom_8 : decode cX12_atom 8 = .ok (.invokestatic 157, 3) := by decide +kernel
theorem dX12_atom_11 : decode cX12_atom 11 = .ok (.ifCond .eq 20, 3) := by decide +kernel
theorem dX12_atom_14 : decode cX12_atom 14 = .ok (.aload_n 0, 1) := by decide +kernel
theorem dX12_atom_15 : decode cX12_atom 15 = .ok (.dup, 1) := by decide +kernel
theorem dX12_atom_16 : decode cX12_atom 16 = .ok (.getfield 122, 3) := by decide +kernel
theorem dX12_atom_19 : decode cX12_atom 19 = .ok (.iconst 1, 1) := by decide +kernel
theorem dX12_atom_20 : decode cX12_atom 20 = .ok (.iadd, 1) := by decide +kernel
theorem dX12_atom_21 : decode cX12_atom 21 = .ok (.putfield 122, 3) := by decide +kernel
theorem dX12_atom_24 : decode cX12_atom 24 = .ok (.aload_n 0, 1) := by decide +kernel
theorem dX12_atom_25 : decode cX12_atom 25 = .ok (.getfield 20, 3) := by decide +kernel
theorem dX12_atom_28 : decode cX12_atom 28 = .ok (.iload_n 1, 1) := by decide +kernel
theorem dX12_atom_29 : decode cX12_atom 29 = .ok (.iaload, 1) := by decide +kernel
theorem dX12_atom_30 : decode cX12_atom 30 = .ok (.ireturn, 1) := by decide +kernel
theorem dX12_atom_31 : decode cX12_atom 31 = .ok (.iload_n 1, 1) := by decide +kernel
theorem dX12_atom_32 : decode cX12_atom 32 = .ok (.bipush 91, 2) := by decide +kernel
theorem dX12_atom_34 : decode cX12_atom 34 = .ok (.if_icmp .ne 40, 3) := by decide +kernel
theorem dX12_atom_37 : decode cX12_atom 37 = .ok (.aload_n 0, 1) := by decide +kernel
theorem dX12_atom_38 : decode cX12_atom 38 = .ok (.invokevirtual 161, 3) := by decide +kernel
theorem dX12_atom_41 : decode cX12_atom 41 = .ok (.ifCond .ne 5, 3) := by decide +kernel
theorem dX12_atom_44 : decode cX12_atom 44 = .ok (.iconst 0, 1) := by decide +kernel
theorem dX12_atom_45 : decode cX12_atom 45 = .ok (.ireturn, 1) := by decide +kernel
theorem dX12_atom_46 : decode cX12_atom 46 = .ok (.aload_n 0, 1) := by decide +kernel
theorem dX12_atom_47 : decode cX12_atom 47 = .ok (.invokevirtual 164, 3) := by decide +kernel
theorem dX12_atom_50 : decode cX12_atom 50 = .ok (.istore_n 2, 1) := by decide +kernel
theorem dX12_atom_51 : decode cX12_atom 51 = .ok (.aload_n 0, 1) := by decide +kernel
theorem dX12_atom_52 : decode cX12_atom 52 = .ok (.bipush 93, 2) := by decide +kernel
theorem dX12_atom_54 : decode cX12_atom 54 = .ok (.invokevirtual 167, 3) := by decide +kernel
theorem dX12_atom_57 : decode cX12_atom 57 = .ok (.ifCond .ne 5, 3) := by decide +kernel
theorem dX12_atom_60 : decode cX12_atom 60 = .ok (.iconst 0, 1) := by decide +kernel
theorem dX12_atom_61 : decode cX12_atom 61 = .ok (.ireturn, 1) := by decide +kernel
theorem dX12_atom_62 : decode cX12_atom 62 = .ok (.aload_n 0, 1) := by decide +kernel
theorem dX12_atom_63 : decode cX12_atom 63 = .ok (.dup, 1) := by decide +kernel
theorem dX12_atom_64 : decode cX12_atom 64 = .ok (.getfield 134, 3) := by decide +kernel
theorem dX12_atom_67 : decode cX12_atom 67 = .ok (.iconst 1, 1) := by decide +kernel
theorem dX12_atom_68 : decode cX12_atom 68 = .ok (.isub, 1) := by decide +kernel
theorem dX12_atom_69 : decode cX12_atom 69 = .ok (.putfield 134, 3) := by decide +kernel
theorem dX12_atom_72 : decode cX12_atom 72 = .ok (.iload_n 2, 1) := by decide +kernel
theorem dX12_atom_73 : decode cX12_atom 73 = .ok (.ireturn, 1) := by decide +kernel
theorem dX12_atom_74 : decode cX12_atom 74 = .ok (.aload_n 0, 1) := by decide +kernel
theorem dX12_atom_75 : decode cX12_atom 75 = .ok (.invokevirtual 171, 3) := by decide +kernel
theorem dX12_atom_78 : decode cX12_atom 78 = .ok (.ifCond .ne 8, 3) := by decide +kernel
theorem dX12_atom_81 : decode cX12_atom 81 = .ok (.aload_n 0, 1) := by decide +kernel
theorem dX12_atom_82 : decode cX12_atom 82 = .ok (.invokevirtual 137, 3) := by decide +kernel
theorem dX12_atom_85 : decode cX12_atom 85 = .ok (.pop, 1) := by decide +kernel
theorem dX12_atom_86 : decode cX12_atom 86 = .ok (.iconst 0, 1) := by decide +kernel
theorem dX12_atom_87 : decode cX12_atom 87 = .ok (.istore_n 2, 1) := by decide +kernel
theorem dX12_atom_88 : decode cX12_atom 88 = .ok (.iconst 0, 1) := by decide +kernel
theorem dX12_atom_89 : decode cX12_atom 89 = .ok (.istore_n 3, 1) := by decide +kernel
theorem dX12_atom_90 : decode cX12_atom 90 = .ok (.aload_n 0, 1) := by decide +kernel
theorem dX12_atom_91 : decode cX12_atom 91 = .ok (.invokevirtual 171, 3) := by decide +kernel
theorem dX12_atom_94 : decode cX12_atom 94 = .ok (.ifCond .eq 62, 3) := by decide +kernel
theorem dX12_atom_97 : decode cX12_atom 97 = .ok (.aload_n 0, 1) := by decide +kernel
theorem dX12_atom_98 : decode cX12_atom 98 = .ok (.getfield 131, 3) := by decide +kernel
theorem dX12_atom_101 : decode cX12_atom 101 = .ok (.iconst (-1), 1) := by decide +kernel
theorem dX12_atom_102 : decode cX12_atom 102 = .ok (.if_icmp .ne 54, 3) := by decide +kernel
theorem dX12_atom_105 : decode cX12_atom 105 = .ok (.iload_n 3, 1) := by decide +kernel
theorem dX12_atom_106 : decode cX12_atom 106 = .ok (.iconst 4, 1) := by decide +kernel
theorem dX12_atom_107 : decode cX12_atom 107 = .ok (.if_icmp .ne 10, 3) := by decide +kernel
theorem dX12_atom_110 : decode cX12_atom 110 = .ok (.aload_n 0, 1) := by decide +kernel
theorem dX12_atom_111 : decode cX12_atom 111 = .ok (.invokevirtual 137, 3) := by decide +kernel
theorem dX12_atom_114 : decode cX12_atom 114 = .ok (.pop, 1) := by decide +kernel
theorem dX12_atom_115 : decode cX12_atom 115 = .ok (.iconst 0, 1) := by decide +kernel
theorem dX12_atom_116 : decode cX12_atom 116 = .ok (.ireturn, 1) := by decide +kernel
theorem dX12_atom_117 : decode cX12_atom 117 = .ok (.bipush 10, 2) := by decide +kernel
theorem dX12_atom_119 : decode cX12_atom 119 = .ok (.iload_n 2, 1) := by decide +kernel
theorem dX12_atom_120 : decode cX12_atom 120 = .ok (.imul, 1) := by decide +kernel
theorem dX12_atom_121 : decode cX12_atom 121 = .ok (.aload_n 0, 1) := by decide +kernel
theorem dX12_atom_122 : decode cX12_atom 122 = .ok (.getfield 23, 3) := by decide +kernel
theorem dX12_atom_125 : decode cX12_atom 125 = .ok (.aload_n 0, 1) := by decide +kernel
theorem dX12_atom_126 : decode cX12_atom 126 = .ok (.getfield 128, 3) := by decide +kernel
theorem dX12_atom_129 : decode cX12_atom 129 = .ok (.aload_n 0, 1) := by decide +kernel
theorem dX12_atom_130 : decode cX12_atom 130 = .ok (.getfield 122, 3) := by decide +kernel
theorem dX12_atom_133 : decode cX12_atom 133 = .ok (.iadd, 1) := by decide +kernel
theorem dX12_atom_134 : decode cX12_atom 134 = .ok (.baload, 1) := by decide +kernel
theorem dX12_atom_135 : decode cX12_atom 135 = .ok (.iadd, 1) := by decide +kernel
theorem dX12_atom_136 : decode cX12_atom 136 = .ok (.bipush 48, 2) := by decide +kernel
theorem dX12_atom_138 : decode cX12_atom 138 = .ok (.isub, 1) := by decide +kernel
theorem dX12_atom_139 : decode cX12_atom 139 = .ok (.istore_n 2, 1) := by decide +kernel
theorem dX12_atom_140 : decode cX12_atom 140 = .ok (.aload_n 0, 1) := by decide +kernel
theorem dX12_atom_141 : decode cX12_atom 141 = .ok (.dup, 1) := by decide +kernel
theorem dX12_atom_142 : decode cX12_atom 142 = .ok (.getfield 122, 3) := by decide +kernel
theorem dX12_atom_145 : decode cX12_atom 145 = .ok (.iconst 1, 1) := by decide +kernel
theorem dX12_atom_146 : decode cX12_atom 146 = .ok (.iadd, 1) := by decide +kernel
theorem dX12_atom_147 : decode cX12_atom 147 = .ok (.putfield 122, 3) := by decide +kernel
theorem dX12_atom_150 : decode cX12_atom 150 = .ok (.iinc 3 1, 3) := by decide +kernel
theorem dX12_atom_153 : decode cX12_atom 153 = .ok (.goto (-63), 3) := by decide +kernel
theorem dX12_atom_156 : decode cX12_atom 156 = .ok (.iload_n 2, 1) := by decide +kernel
theorem dX12_atom_157 : decode cX12_atom 157 = .ok (.ireturn, 1) := by decide +kernel
theorem dX12_term_0 : decode cX12_term 0 = .ok (.aload_n 0, 1) := by decide +kernel
theorem dX12_term_1 : decode cX12_term 1 = .ok (.invokevirtual 174, 3) := by decide +kernel
theorem dX12_term_4 : decode cX12_term 4 = .ok (.istore_n 1, 1) := by decide +kernel
theorem dX12_term_5 : decode cX12_term 5 = .ok (.aload_n 0, 1) := by decide +kernel
theorem dX12_term_6 : decode cX12_term 6 = .ok (.getfield 131, 3) := by decide +kernel
theorem dX12_term_9 : decode cX12_term 9 = .ok (.iconst (-1), 1) := by decide +kernel
theorem dX12_term_10 : decode cX12_term 10 = .ok (.if_icmp .ne 84, 3) := by decide +kernel
theorem dX12_term_13 : decode cX12_term 13 = .ok (.aload_n 0, 1) := by decide +kernel
theorem dX12_term_14 : decode cX12_term 14 = .ok (.invokevirtual 141, 3) := by decide +kernel
theorem dX12_term_17 : decode cX12_term 17 = .ok (.bipush 42, 2) := by decide +kernel
theorem dX12_term_19 : decode cX12_term 19 = .ok (.if_icmp .eq 12, 3) := by decide +kernel
theorem dX12_term_22 : decode cX12_term 22 = .ok (.aload_n 0, 1) := by decide +kernel
theorem dX12_term_23 : decode cX12_term 23 = .ok (.invokevirtual 141, 3) := by decide +kernel
theorem dX12_term_26 : decode cX12_term 26 = .ok (.bipush 47, 2) := by decide +kernel
theorem dX12_term_28 : decode cX12_term 28 = .ok (.if_icmp .ne 66, 3) := by decide +kernel
theorem dX12_term_31 : decode cX12_term 31 = .ok (.aload_n 0, 1) := by decide +kernel
theorem dX12_term_32 : decode cX12_term 32 = .ok (.invokevirtual 141, 3) := by decide +kernel
theorem dX12_term_35 : decode cX12_term 35 = .ok (.bipush 42, 2) := by decide +kernel
theorem dX12_term_37 : decode cX12_term 37 = .ok (.if_icmp .ne 7, 3) := by decide +kernel
theorem dX12_term_40 : decode cX12_term 40 = .ok (.iconst 1, 1) := by decide +kernel
theorem dX12_term_41 : decode cX12_term 41 = .ok (.goto 4, 3) := by decide +kernel
theorem dX12_term_44 : decode cX12_term 44 = .ok (.iconst 0, 1) := by decide +kernel
theorem dX12_term_45 : decode cX12_term 45 = .ok (.istore_n 2, 1) := by decide +kernel
theorem dX12_term_46 : decode cX12_term 46 = .ok (.aload_n 0, 1) := by decide +kernel
theorem dX12_term_47 : decode cX12_term 47 = .ok (.dup, 1) := by decide +kernel
theorem dX12_term_48 : decode cX12_term 48 = .ok (.getfield 122, 3) := by decide +kernel
theorem dX12_term_51 : decode cX12_term 51 = .ok (.iconst 1, 1) := by decide +kernel
theorem dX12_term_52 : decode cX12_term 52 = .ok (.iadd, 1) := by decide +kernel
theorem dX12_term_53 : decode cX12_term 53 = .ok (.putfield 122, 3) := by decide +kernel
theorem dX12_term_56 : decode cX12_term 56 = .ok (.aload_n 0, 1) := by decide +kernel
theorem dX12_term_57 : decode cX12_term 57 = .ok (.invokevirtual 174, 3) := by decide +kernel
theorem dX12_term_60 : decode cX12_term 60 = .ok (.i2l, 1) := by decide +kernel
theorem dX12_term_61 : decode cX12_term 61 = .ok (.lstore_n 3, 1) := by decide +kernel
theorem dX12_term_62 : decode cX12_term 62 = .ok (.iload_n 2, 1) := by decide +kernel
theorem dX12_term_63 : decode cX12_term 63 = .ok (.ifCond .eq 10, 3) := by decide +kernel
theorem dX12_term_66 : decode cX12_term 66 = .ok (.iload_n 1, 1) := by decide +kernel
theorem dX12_term_67 : decode cX12_term 67 = .ok (.i2l, 1) := by decide +kernel
theorem dX12_term_68 : decode cX12_term 68 = .ok (.lload_n 3, 1) := by decide +kernel
theorem dX12_term_69 : decode cX12_term 69 = .ok (.lmul, 1) := by decide +kernel
theorem dX12_term_70 : decode cX12_term 70 = .ok (.goto 17, 3) := by decide +kernel
theorem dX12_term_73 : decode cX12_term 73 = .ok (.lload_n 3, 1) := by decide +kernel
theorem dX12_term_74 : decode cX12_term 74 = .ok (.lconst 0, 1) := by decide +kernel
theorem dX12_term_75 : decode cX12_term 75 = .ok (.lcmp, 1) := by decide +kernel
theorem dX12_term_76 : decode cX12_term 76 = .ok (.ifCond .ne 7, 3) := by decide +kernel
theorem dX12_term_79 : decode cX12_term 79 = .ok (.lconst 0, 1) := by decide +kernel
theorem dX12_term_80 : decode cX12_term 80 = .ok (.goto 7, 3) := by decide +kernel
theorem dX12_term_83 : decode cX12_term 83 = .ok (.iload_n 1, 1) := by decide +kernel
theorem dX12_term_84 : decode cX12_term 84 = .ok (.i2l, 1) := by decide +kernel
theorem dX12_term_85 : decode cX12_term 85 = .ok (.lload_n 3, 1) := by decide +kernel
theorem dX12_term_86 : decode cX12_term 86 = .ok (.ldiv, 1) := by decide +kernel
theorem dX12_term_87 : decode cX12_term 87 = .ok (.invokestatic 177, 3) := by decide +kernel
theorem dX12_term_90 : decode cX12_term 90 = .ok (.istore_n 1, 1) := by decide +kernel
theorem dX12_term_91 : decode cX12_term 91 = .ok (.goto (-86), 3) := by decide +kernel
theorem dX12_term_94 : decode cX12_term 94 = .ok (.iload_n 1, 1) := by decide +kernel
theorem dX12_term_95 : decode cX12_term 95 = .ok (.ireturn, 1) := by decide +kernel
theorem dX12_sum_0 : decode cX12_sum 0 = .ok (.aload_n 0, 1) := by decide +kernel
theorem dX12_sum_1 : decode cX12_sum 1 = .ok (.invokevirtual 181, 3) := by decide +kernel
theorem dX12_sum_4 : decode cX12_sum 4 = .ok (.istore_n 1, 1) := by decide +kernel
theorem dX12_sum_5 : decode cX12_sum 5 = .ok (.aload_n 0, 1) := by decide +kernel
theorem dX12_sum_6 : decode cX12_sum 6 = .ok (.getfield 131, 3) := by decide +kernel
theorem dX12_sum_9 : decode cX12_sum 9 = .ok (.iconst (-1), 1) := by decide +kernel
theorem dX12_sum_10 : decode cX12_sum 10 = .ok (.if_icmp .ne 74, 3) := by decide +kernel
theorem dX12_sum_13 : decode cX12_sum 13 = .ok (.aload_n 0, 1) := by decide +kernel
theorem dX12_sum_14 : decode cX12_sum 14 = .ok (.invokevirtual 141, 3) := by decide +kernel
theorem dX12_sum_17 : decode cX12_sum 17 = .ok (.bipush 43, 2) := by decide +kernel
theorem dX12_sum_19 : decode cX12_sum 19 = .ok (.if_icmp .eq 12, 3) := by decide +kernel
theorem dX12_sum_22 : decode cX12_sum 22 = .ok (.aload_n 0, 1) := by decide +kernel
theorem dX12_sum_23 : decode cX12_sum 23 = .ok (.invokevirtual 141, 3) := by decide +kernel
theorem dX12_sum_26 : decode cX12_sum 26 = .ok (.bipush 45, 2) := by decide +kernel
theorem dX12_sum_28 : decode cX12_sum 28 = .ok (.if_icmp .ne 56, 3) := by decide +kernel
theorem dX12_sum_31 : decode cX12_sum 31 = .ok (.aload_n 0, 1) := by decide +kernel
theorem dX12_sum_32 : decode cX12_sum 32 = .ok (.invokevirtual 141, 3) := by decide +kernel
theorem dX12_sum_35 : decode cX12_sum 35 = .ok (.bipush 43, 2) := by decide +kernel
theorem dX12_sum_37 : decode cX12_sum 37 = .ok (.if_icmp .ne 7, 3) := by decide +kernel
theorem dX12_sum_40 : decode cX12_sum 40 = .ok (.iconst 1, 1) := by decide +kernel
theorem dX12_sum_41 : decode cX12_sum 41 = .ok (.goto 4, 3) := by decide +kernel
theorem dX12_sum_44 : decode cX12_sum 44 = .ok (.iconst 0, 1) := by decide +kernel
theorem dX12_sum_45 : decode cX12_sum 45 = .ok (.istore_n 2, 1) := by decide +kernel
theorem dX12_sum_46 : decode cX12_sum 46 = .ok (.aload_n 0, 1) := by decide +kernel
theorem dX12_sum_47 : decode cX12_sum 47 = .ok (.dup, 1) := by decide +kernel
theorem dX12_sum_48 : decode cX12_sum 48 = .ok (.getfield 122, 3) := by decide +kernel
theorem dX12_sum_51 : decode cX12_sum 51 = .ok (.iconst 1, 1) := by decide +kernel
theorem dX12_sum_52 : decode cX12_sum 52 = .ok (.iadd, 1) := by decide +kernel
theorem dX12_sum_53 : decode cX12_sum 53 = .ok (.putfield 122, 3) := by decide +kernel
theorem dX12_sum_56 : decode cX12_sum 56 = .ok (.aload_n 0, 1) := by decide +kernel
theorem dX12_sum_57 : decode cX12_sum 57 = .ok (.invokevirtual 181, 3) := by decide +kernel
theorem dX12_sum_60 : decode cX12_sum 60 = .ok (.i2l, 1) := by decide +kernel
theorem dX12_sum_61 : decode cX12_sum 61 = .ok (.lstore_n 3, 1) := by decide +kernel
theorem dX12_sum_62 : decode cX12_sum 62 = .ok (.iload_n 2, 1) := by decide +kernel
theorem dX12_sum_63 : decode cX12_sum 63 = .ok (.ifCond .eq 10, 3) := by decide +kernel
theorem dX12_sum_66 : decode cX12_sum 66 = .ok (.iload_n 1, 1) := by decide +kernel
theorem dX12_sum_67 : decode cX12_sum 67 = .ok (.i2l, 1) := by decide +kernel
theorem dX12_sum_68 : decode cX12_sum 68 = .ok (.lload_n 3, 1) := by decide +kernel
theorem dX12_sum_69 : decode cX12_sum 69 = .ok (.ladd, 1) := by decide +kernel
theorem dX12_sum_70 : decode cX12_sum 70 = .ok (.goto 7, 3) := by decide +kernel
theorem dX12_sum_73 : decode cX12_sum 73 = .ok (.iload_n 1, 1) := by decide +kernel
theorem dX12_sum_74 : decode cX12_sum 74 = .ok (.i2l, 1) := by decide +kernel
theorem dX12_sum_75 : decode cX12_sum 75 = .ok (.lload_n 3, 1) := by decide +kernel
theorem dX12_sum_76 : decode cX12_sum 76 = .ok (.lsub, 1) := by decide +kernel
theorem dX12_sum_77 : decode cX12_sum 77 = .ok (.invokestatic 177, 3) := by decide +kernel
theorem dX12_sum_80 : decode cX12_sum 80 = .ok (.istore_n 1, 1) := by decide +kernel
theorem dX12_sum_81 : decode cX12_sum 81 = .ok (.goto (-76), 3) := by decide +kernel
theorem dX12_sum_84 : decode cX12_sum 84 = .ok (.iload_n 1, 1) := by decide +kernel
theorem dX12_sum_85 : decode cX12_sum 85 = .ok (.ireturn, 1) := by decide +kernel
def m_atom_156 (c_m_atom : aw_W → Option (Int × aw_W)) (c_m_term : aw_W → Option (Int × aw_W)) (c_m_sum : aw_W → Option (Int × aw_W)) (N : Nat) (x2 : Int) (w : aw_W) : Option (Int × aw_W) :=
  some (x2, w)
theorem w_m_atom_156 {l : Launch} {K : aw_K} (N d : Nat) (hd : 4 ≤ d) (c_m_atom : aw_W → Option (Int × aw_W)) (c_m_term : aw_W → Option (Int × aw_W)) (c_m_sum : aw_W → Option (Int × aw_W)) (hc_m_atom : ∀ (w : aw_W) (y : Int) (v : aw_W), c_m_atom w = some (y, v) → aw_Met l K MX12_atom (d) [.inr (.inr 49)] w (some (.inl y), v)) (hc_m_term : ∀ (w : aw_W) (y : Int) (v : aw_W), c_m_term w = some (y, v) → aw_Met l K MX12_term (d) [.inr (.inr 49)] w (some (.inl y), v)) (hc_m_sum : ∀ (w : aw_W) (y : Int) (v : aw_W), c_m_sum w = some (y, v) → aw_Met l K MX12_sum (d) [.inr (.inr 49)] w (some (.inl y), v)) : ∀ (x2 : Int) (w : aw_W) (y : Int) (v : aw_W), m_atom_156 c_m_atom c_m_term c_m_sum N x2 w = some (y, v) → aw_AW l K MX12_atom (d + 1) 156 [(2, .inl x2)] [] w (some (.inl y), v) := by
  intro x2 w y v h
  unfold m_atom_156 at h
  refine aw_iload_n (pc := 156) (q := 0) dX12_atom_156 rfl ?_
  cases h
  exact aw_iret (pc := 157) rfl dX12_atom_157
def m_atom_110 (c_m_atom : aw_W → Option (Int × aw_W)) (c_m_term : aw_W → Option (Int × aw_W)) (c_m_sum : aw_W → Option (Int × aw_W)) (N : Nat) (w : aw_W) : Option (Int × aw_W) :=
  aw_b2 (m_fails N w) fun r1 w1 =>
    some (0, w1)
theorem w_m_atom_110 {l : Launch} {K : aw_K} (N d : Nat) (hd : 4 ≤ d) (c_m_atom : aw_W → Option (Int × aw_W)) (c_m_term : aw_W → Option (Int × aw_W)) (c_m_sum : aw_W → Option (Int × aw_W)) (hc_m_atom : ∀ (w : aw_W) (y : Int) (v : aw_W), c_m_atom w = some (y, v) → aw_Met l K MX12_atom (d) [.inr (.inr 49)] w (some (.inl y), v)) (hc_m_term : ∀ (w : aw_W) (y : Int) (v : aw_W), c_m_term w = some (y, v) → aw_Met l K MX12_term (d) [.inr (.inr 49)] w (some (.inl y), v)) (hc_m_sum : ∀ (w : aw_W) (y : Int) (v : aw_W), c_m_sum w = some (y, v) → aw_Met l K MX12_sum (d) [.inr (.inr 49)] w (some (.inl y), v)) : ∀ (w : aw_W) (y : Int) (v : aw_W), m_atom_110 c_m_atom c_m_term c_m_sum N w = some (y, v) → aw_AW l K MX12_atom (d + 1) 110 [(0, .inr (.inr 49))] [] w (some (.inl y), v) := by
  intro w y v h
  unfold m_atom_110 at h
  refine aw_aload_n (pc := 110) (q := 0) dX12_atom_110 rfl ?_
  obtain ⟨r1, w1, h1, h⟩ := aw_b2s h
  refine aw_callV (pc := 111) (as := []) (st := []) (st' := [.inl r1]) dX12_atom_111 cv_RX12_137 (by decide) rfl rfl rfl rfl (Nat.le_of_ble_eq_true rfl) (w_m_fails N d (by omega) _ _ _ h1) rfl ?_
  refine aw_pop (pc := 114) dX12_atom_114 rfl ?_
  refine aw_iconst (pc := 115) dX12_atom_115 ⟨by decide, by decide⟩ ?_
  cases h
  exact aw_iret (pc := 116) rfl dX12_atom_116
def m_atom_90 (c_m_atom : aw_W → Option (Int × aw_W)) (c_m_term : aw_W → Option (Int × aw_W)) (c_m_sum : aw_W → Option (Int × aw_W)) (N : Nat) : Nat → Int → Int → aw_W → Option (Int × aw_W)
  | 0, _, _, _ => none
  | n + 1, x2, x3, w =>
    aw_b2 (m_isDigit N w) fun r1 w1 =>
      if r1 = 0 then
        m_atom_156 c_m_atom c_m_term c_m_sum N x2 w1
      else
        if (w1 49 11) = (-1) then
          if x3 = 4 then
            m_atom_110 c_m_atom c_m_term c_m_sum N w1
          else
            if aw_bA ((w1 49 5).toNat) = true ∧ 0 ≤ (aw_w ((w1 49 8) + (w1 49 10))) ∧ (aw_w ((w1 49 8) + (w1 49 10))) < aw_ln ((w1 49 5).toNat) then
              m_atom_90 c_m_atom c_m_term c_m_sum N n (aw_w ((aw_w ((aw_w (10 * x2)) + (w1 ((w1 49 5).toNat) ((aw_w ((w1 49 8) + (w1 49 10))).toNat)))) - 48)) (aw_w (x3 + 1)) (aw_up w1 49 10 (aw_w ((w1 49 10) + 1)))
            else none
        else
          m_atom_156 c_m_atom c_m_term c_m_sum N x2 w1
theorem w_m_atom_90 {l : Launch} {K : aw_K} (N d : Nat) (hd : 4 ≤ d) (c_m_atom : aw_W → Option (Int × aw_W)) (c_m_term : aw_W → Option (Int × aw_W)) (c_m_sum : aw_W → Option (Int × aw_W)) (hc_m_atom : ∀ (w : aw_W) (y : Int) (v : aw_W), c_m_atom w = some (y, v) → aw_Met l K MX12_atom (d) [.inr (.inr 49)] w (some (.inl y), v)) (hc_m_term : ∀ (w : aw_W) (y : Int) (v : aw_W), c_m_term w = some (y, v) → aw_Met l K MX12_term (d) [.inr (.inr 49)] w (some (.inl y), v)) (hc_m_sum : ∀ (w : aw_W) (y : Int) (v : aw_W), c_m_sum w = some (y, v) → aw_Met l K MX12_sum (d) [.inr (.inr 49)] w (some (.inl y), v)) : ∀ (n : Nat) (x2 x3 : Int) (w : aw_W) (y : Int) (v : aw_W), m_atom_90 c_m_atom c_m_term c_m_sum N n x2 x3 w = some (y, v) → aw_AW l K MX12_atom (d + 1) 90 [(0, .inr (.inr 49)), (2, .inl x2), (3, .inl x3)] [] w (some (.inl y), v) := by
  intro n
  induction n with
  | zero => intro x2 x3 w y v h; rw [m_atom_90] at h; cases h
  | succ n ih =>
    intro x2 x3 w y v h
    rw [m_atom_90] at h
    refine aw_aload_n (pc := 90) (q := 0) dX12_atom_90 rfl ?_
    obtain ⟨r1, w1, h1, h⟩ := aw_b2s h
    refine aw_callV (pc := 91) (as := []) (st := []) (st' := [.inl r1]) dX12_atom_91 cv_RX12_171 (by decide) rfl rfl rfl rfl (Nat.le_of_ble_eq_true rfl) (w_m_isDigit N d (by omega) _ _ _ h1) rfl ?_
    refine aw_if_eq (pc := 94) (tgt := 156) dX12_atom_94 (by decide) (fun hc => ?_) (fun hc => ?_)
    · rw [if_pos hc] at h
      exact aw_sel [1] rfl (w_m_atom_156 N d hd c_m_atom c_m_term c_m_sum hc_m_atom hc_m_term hc_m_sum  _ _ _ _ h)
    · rw [if_neg hc] at h
      refine aw_aload_n (pc := 97) (q := 0) dX12_atom_97 rfl ?_
      refine aw_getf (pc := 98) (v := .inl (w1 49 11)) dX12_atom_98 fl_RX12_131 (by decide) rfl rfl rfl ?_
      refine aw_iconst (pc := 101) dX12_atom_101 ⟨by decide, by decide⟩ ?_
      refine aw_icmp_ne (pc := 102) (tgt := 156) dX12_atom_102 (by decide) (fun hc => ?_) (fun hc => ?_)
      · rw [if_neg hc] at h
        exact aw_sel [1] rfl (w_m_atom_156 N d hd c_m_atom c_m_term c_m_sum hc_m_atom hc_m_term hc_m_sum  _ _ _ _ h)
      · rw [if_pos hc] at h
        refine aw_iload_n (pc := 105) (q := 2) dX12_atom_105 rfl ?_
        refine aw_iconst (pc := 106) dX12_atom_106 ⟨by decide, by decide⟩ ?_
        refine aw_icmp_ne (pc := 107) (tgt := 117) dX12_atom_107 (by decide) (fun hc => ?_) (fun hc => ?_)
        · rw [if_neg hc] at h
          refine aw_bipush (pc := 117) dX12_atom_117 (by decide) ⟨by decide, by decide⟩ ?_
          refine aw_iload_n (pc := 119) (q := 1) dX12_atom_119 rfl ?_
          refine aw_imul (pc := 120) dX12_atom_120 ?_
          refine aw_aload_n (pc := 121) (q := 0) dX12_atom_121 rfl ?_
          refine aw_getf (pc := 122) (v := .inr (.inr ((w1 49 5).toNat))) dX12_atom_122 fl_RX12_23 (by decide) rfl rfl rfl ?_
          refine aw_aload_n (pc := 125) (q := 0) dX12_atom_125 rfl ?_
          refine aw_getf (pc := 126) (v := .inl (w1 49 8)) dX12_atom_126 fl_RX12_128 (by decide) rfl rfl rfl ?_
          refine aw_aload_n (pc := 129) (q := 0) dX12_atom_129 rfl ?_
          refine aw_getf (pc := 130) (v := .inl (w1 49 10)) dX12_atom_130 fl_RX12_122 (by decide) rfl rfl rfl ?_
          refine aw_iadd (pc := 133) dX12_atom_133 ?_
          obtain ⟨hb, h⟩ := aw_cks h
          refine aw_baldx (pc := 134) (v := w1 ((w1 49 5).toNat) ((aw_w ((w1 49 8) + (w1 49 10))).toNat)) dX12_atom_134 hb.1 hb.2.1 hb.2.2 rfl ?_
          refine aw_iadd (pc := 135) dX12_atom_135 ?_
          refine aw_bipush (pc := 136) dX12_atom_136 (by decide) ⟨by decide, by decide⟩ ?_
          refine aw_isub (pc := 138) dX12_atom_138 ?_
          refine aw_istore_n (pc := 139) (ls' := [(2, .inl (aw_w ((aw_w ((aw_w (10 * x2)) + (w1 ((w1 49 5).toNat) ((aw_w ((w1 49 8) + (w1 49 10))).toNat)))) - 48))), (0, .inr (.inr 49)), (3, .inl x3)]) dX12_atom_139 (by decide) rfl ?_
          refine aw_aload_n (pc := 140) (q := 1) dX12_atom_140 rfl ?_
          refine aw_dup (pc := 141) dX12_atom_141 rfl ?_
          refine aw_getf (pc := 142) (v := .inl (w1 49 10)) dX12_atom_142 fl_RX12_122 (by decide) rfl rfl rfl ?_
          refine aw_iconst (pc := 145) dX12_atom_145 ⟨by decide, by decide⟩ ?_
          refine aw_iadd (pc := 146) dX12_atom_146 ?_
          refine aw_puti (pc := 147) dX12_atom_147 fp_RX12_122 (by decide) rfl rfl ?_
          refine aw_iinc (pc := 150) (q := 2) (ls' := [(3, .inl (aw_w (x3 + 1))), (2, .inl (aw_w ((aw_w ((aw_w (10 * x2)) + (w1 ((w1 49 5).toNat) ((aw_w ((w1 49 8) + (w1 49 10))).toNat)))) - 48))), (0, .inr (.inr 49))]) dX12_atom_150 rfl (by decide) rfl ?_
          refine aw_goto (pc := 153) (tgt := 90) dX12_atom_153 (by decide) ?_
          exact aw_sel [2, 1, 0] rfl (ih _ _ _ _ _ h)
        · rw [if_pos hc] at h
          exact aw_sel [0] rfl (w_m_atom_110 N d hd c_m_atom c_m_term c_m_sum hc_m_atom hc_m_term hc_m_sum  _ _ _ h)
def m_atom_86 (c_m_atom : aw_W → Option (Int × aw_W)) (c_m_term : aw_W → Option (Int × aw_W)) (c_m_sum : aw_W → Option (Int × aw_W)) (N : Nat) (w : aw_W) : Option (Int × aw_W) :=
  m_atom_90 c_m_atom c_m_term c_m_sum N N 0 0 w
theorem w_m_atom_86 {l : Launch} {K : aw_K} (N d : Nat) (hd : 4 ≤ d) (c_m_atom : aw_W → Option (Int × aw_W)) (c_m_term : aw_W → Option (Int × aw_W)) (c_m_sum : aw_W → Option (Int × aw_W)) (hc_m_atom : ∀ (w : aw_W) (y : Int) (v : aw_W), c_m_atom w = some (y, v) → aw_Met l K MX12_atom (d) [.inr (.inr 49)] w (some (.inl y), v)) (hc_m_term : ∀ (w : aw_W) (y : Int) (v : aw_W), c_m_term w = some (y, v) → aw_Met l K MX12_term (d) [.inr (.inr 49)] w (some (.inl y), v)) (hc_m_sum : ∀ (w : aw_W) (y : Int) (v : aw_W), c_m_sum w = some (y, v) → aw_Met l K MX12_sum (d) [.inr (.inr 49)] w (some (.inl y), v)) : ∀ (w : aw_W) (y : Int) (v : aw_W), m_atom_86 c_m_atom c_m_term c_m_sum N w = some (y, v) → aw_AW l K MX12_atom (d + 1) 86 [(0, .inr (.inr 49))] [] w (some (.inl y), v) := by
  intro w y v h
  unfold m_atom_86 at h
  refine aw_iconst (pc := 86) dX12_atom_86 ⟨by decide, by decide⟩ ?_
  refine aw_istore_n (pc := 87) (ls' := [(2, .inl 0), (0, .inr (.inr 49))]) dX12_atom_87 (by decide) rfl ?_
  refine aw_iconst (pc := 88) dX12_atom_88 ⟨by decide, by decide⟩ ?_
  refine aw_istore_n (pc := 89) (ls' := [(3, .inl 0), (2, .inl 0), (0, .inr (.inr 49))]) dX12_atom_89 (by decide) rfl ?_
  exact aw_sel [2, 1, 0] rfl (w_m_atom_90 N d hd c_m_atom c_m_term c_m_sum hc_m_atom hc_m_term hc_m_sum  N _ _ _ _ _ h)
def m_atom_b (c_m_atom : aw_W → Option (Int × aw_W)) (c_m_term : aw_W → Option (Int × aw_W)) (c_m_sum : aw_W → Option (Int × aw_W)) (N : Nat) (w : aw_W) : Option (Int × aw_W) :=
  aw_b2 (m_look N w) fun r1 w1 =>
    aw_b2 (m_isAmong_221 N r1 w1) fun r2 w2 =>
      if r2 = 0 then
        if r1 = 91 then
          aw_b2 (m_goesIn N w2) fun r5 w5 =>
            if r5 = 0 then
              some (0, w5)
            else
              aw_b2 (c_m_sum w5) fun r6 w6 =>
                aw_b2 (m_takes N 93 w6) fun r7 w7 =>
                  if r7 = 0 then
                    some (0, w7)
                  else
                    some (r6, (aw_up w7 49 12 (aw_w ((w7 49 12) - 1))))
        else
          aw_b2 (m_isDigit N w2) fun r3 w3 =>
            if r3 = 0 then
              aw_b2 (m_fails N w3) fun r4 w4 =>
                m_atom_86 c_m_atom c_m_term c_m_sum N w4
            else
              m_atom_86 c_m_atom c_m_term c_m_sum N w3
      else
        if 0 ≤ r1 ∧ r1 < 128 then
          some (w2 53 r1.toNat, (aw_up w2 49 10 (aw_w ((w2 49 10) + 1))))
        else none
theorem w_m_atom_b {l : Launch} {K : aw_K} (N d : Nat) (hd : 4 ≤ d) (c_m_atom : aw_W → Option (Int × aw_W)) (c_m_term : aw_W → Option (Int × aw_W)) (c_m_sum : aw_W → Option (Int × aw_W)) (hc_m_atom : ∀ (w : aw_W) (y : Int) (v : aw_W), c_m_atom w = some (y, v) → aw_Met l K MX12_atom (d) [.inr (.inr 49)] w (some (.inl y), v)) (hc_m_term : ∀ (w : aw_W) (y : Int) (v : aw_W), c_m_term w = some (y, v) → aw_Met l K MX12_term (d) [.inr (.inr 49)] w (some (.inl y), v)) (hc_m_sum : ∀ (w : aw_W) (y : Int) (v : aw_W), c_m_sum w = some (y, v) → aw_Met l K MX12_sum (d) [.inr (.inr 49)] w (some (.inl y), v)) : ∀ (w : aw_W) (y : Int) (v : aw_W), m_atom_b c_m_atom c_m_term c_m_sum N w = some (y, v) → aw_Met l K MX12_atom (d + 1) [.inr (.inr 49)] w (some (.inl y), v) := by
  intro w y v h
  unfold m_atom_b at h
  refine aw_enter rfl (Nat.le_of_ble_eq_true rfl) ?_
  show aw_AW l K MX12_atom (d + 1) 0 [(0, .inr (.inr 49))] [] w (some (.inl y), v)
  refine aw_aload_n (pc := 0) (q := 0) dX12_atom_0 rfl ?_
  obtain ⟨r1, w1, h1, h⟩ := aw_b2s h
  refine aw_callV (pc := 1) (as := []) (st := []) (st' := [.inl r1]) dX12_atom_1 cv_RX12_141 (by decide) rfl rfl rfl rfl (Nat.le_of_ble_eq_true rfl) (w_m_look N d (by omega) _ _ _ h1) rfl ?_
  refine aw_istore_n (pc := 4) (ls' := [(1, .inl r1), (0, .inr (.inr 49))]) dX12_atom_4 (by decide) rfl ?_
  refine aw_ldcs1 (pc := 5) dX12_atom_5 ?_
  refine aw_iload_n (pc := 7) (q := 0) dX12_atom_7 rfl ?_
  obtain ⟨r2, w2, h2, h⟩ := aw_b2s h
  refine aw_callS (pc := 8) (as := [.inr (.inr 221), .inl r1]) (st := []) (st' := [.inl r2]) dX12_atom_8 cs_RX12_157 rfl rfl (Nat.le_of_ble_eq_true rfl) (w_m_isAmong_221 N d (by omega) _ _ _ _ h2) rfl ?_
  refine aw_if_eq (pc := 11) (tgt := 31) dX12_atom_11 (by decide) (fun hc => ?_) (fun hc => ?_)
  · rw [if_pos hc] at h
    refine aw_iload_n (pc := 31) (q := 0) dX12_atom_31 rfl ?_
    refine aw_bipush (pc := 32) dX12_atom_32 (by decide) ⟨by decide, by decide⟩ ?_
    refine aw_icmp_ne (pc := 34) (tgt := 74) dX12_atom_34 (by decide) (fun hc => ?_) (fun hc => ?_)
    · rw [if_neg hc] at h
      refine aw_aload_n (pc := 74) (q := 1) dX12_atom_74 rfl ?_
      obtain ⟨r3, w3, h3, h⟩ := aw_b2s h
      refine aw_callV (pc := 75) (as := []) (st := []) (st' := [.inl r3]) dX12_atom_75 cv_RX12_171 (by decide) rfl rfl rfl rfl (Nat.le_of_ble_eq_true rfl) (w_m_isDigit N d (by omega) _ _ _ h3) rfl ?_
      refine aw_if_ne (pc := 78) (tgt := 86) dX12_atom_78 (by decide) (fun hc => ?_) (fun hc => ?_)
      · rw [if_neg hc] at h
        exact aw_sel [1] rfl (w_m_atom_86 N d hd c_m_atom c_m_term c_m_sum hc_m_atom hc_m_term hc_m_sum  _ _ _ h)
      · rw [if_pos hc] at h
        refine aw_aload_n (pc := 81) (q := 1) dX12_atom_81 rfl ?_
        obtain ⟨r4, w4, h4, h⟩ := aw_b2s h
        refine aw_callV (pc := 82) (as := []) (st := []) (st' := [.inl r4]) dX12_atom_82 cv_RX12_137 (by decide) rfl rfl rfl rfl (Nat.le_of_ble_eq_true rfl) (w_m_fails N d (by omega) _ _ _ h4) rfl ?_
        refine aw_pop (pc := 85) dX12_atom_85 rfl ?_
        exact aw_sel [1] rfl (w_m_atom_86 N d hd c_m_atom c_m_term c_m_sum hc_m_atom hc_m_term hc_m_sum  _ _ _ h)
    · rw [if_pos hc] at h
      refine aw_aload_n (pc := 37) (q := 1) dX12_atom_37 rfl ?_
      obtain ⟨r5, w5, h5, h⟩ := aw_b2s h
      refine aw_callV (pc := 38) (as := []) (st := []) (st' := [.inl r5]) dX12_atom_38 cv_RX12_161 (by decide) rfl rfl rfl rfl (Nat.le_of_ble_eq_true rfl) (w_m_goesIn N d (by omega) _ _ _ h5) rfl ?_
      refine aw_if_ne (pc := 41) (tgt := 46) dX12_atom_41 (by decide) (fun hc => ?_) (fun hc => ?_)
      · rw [if_neg hc] at h
        refine aw_aload_n (pc := 46) (q := 1) dX12_atom_46 rfl ?_
        obtain ⟨r6, w6, h6, h⟩ := aw_b2s h
        refine aw_callV (pc := 47) (as := []) (st := []) (st' := [.inl r6]) dX12_atom_47 cv_RX12_164 (by decide) rfl rfl rfl rfl (Nat.le_of_ble_eq_true rfl) (hc_m_sum _ _ _ h6) rfl ?_
        refine aw_istore_n (pc := 50) (ls' := [(2, .inl r6), (1, .inl r1), (0, .inr (.inr 49))]) dX12_atom_50 (by decide) rfl ?_
        refine aw_aload_n (pc := 51) (q := 2) dX12_atom_51 rfl ?_
        refine aw_bipush (pc := 52) dX12_atom_52 (by decide) ⟨by decide, by decide⟩ ?_
        obtain ⟨r7, w7, h7, h⟩ := aw_b2s h
        refine aw_callV (pc := 54) (as := [.inl 93]) (st := []) (st' := [.inl r7]) dX12_atom_54 cv_RX12_167 (by decide) rfl rfl rfl rfl (Nat.le_of_ble_eq_true rfl) (w_m_takes N d (by omega) _ _ _ _ h7) rfl ?_
        refine aw_if_ne (pc := 57) (tgt := 62) dX12_atom_57 (by decide) (fun hc => ?_) (fun hc => ?_)
        · rw [if_neg hc] at h
          refine aw_aload_n (pc := 62) (q := 2) dX12_atom_62 rfl ?_
          refine aw_dup (pc := 63) dX12_atom_63 rfl ?_
          refine aw_getf (pc := 64) (v := .inl (w7 49 12)) dX12_atom_64 fl_RX12_134 (by decide) rfl rfl rfl ?_
          refine aw_iconst (pc := 67) dX12_atom_67 ⟨by decide, by decide⟩ ?_
          refine aw_isub (pc := 68) dX12_atom_68 ?_
          refine aw_puti (pc := 69) dX12_atom_69 fp_RX12_134 (by decide) rfl rfl ?_
          refine aw_iload_n (pc := 72) (q := 0) dX12_atom_72 rfl ?_
          cases h
          exact aw_iret (pc := 73) rfl dX12_atom_73
        · rw [if_pos hc] at h
          refine aw_iconst (pc := 60) dX12_atom_60 ⟨by decide, by decide⟩ ?_
          cases h
          exact aw_iret (pc := 61) rfl dX12_atom_61
      · rw [if_pos hc] at h
        refine aw_iconst (pc := 44) dX12_atom_44 ⟨by decide, by decide⟩ ?_
        cases h
        exact aw_iret (pc := 45) rfl dX12_atom_45
  · rw [if_neg hc] at h
    refine aw_aload_n (pc := 14) (q := 1) dX12_atom_14 rfl ?_
    refine aw_dup (pc := 15) dX12_atom_15 rfl ?_
    refine aw_getf (pc := 16) (v := .inl (w2 49 10)) dX12_atom_16 fl_RX12_122 (by decide) rfl rfl rfl ?_
    refine aw_iconst (pc := 19) dX12_atom_19 ⟨by decide, by decide⟩ ?_
    refine aw_iadd (pc := 20) dX12_atom_20 ?_
    refine aw_puti (pc := 21) dX12_atom_21 fp_RX12_122 (by decide) rfl rfl ?_
    refine aw_aload_n (pc := 24) (q := 1) dX12_atom_24 rfl ?_
    refine aw_getf (pc := 25) (v := .inr (.inr 53)) dX12_atom_25 fl_RX12_20 (by decide) rfl rfl rfl ?_
    refine aw_iload_n (pc := 28) (q := 0) dX12_atom_28 rfl ?_
    obtain ⟨hb, h⟩ := aw_cks h
    refine aw_ialdv (pc := 29) (v := w2 53 r1.toNat) dX12_atom_29 rfl hb.1 hb.2 rfl ?_
    cases h
    exact aw_iret (pc := 30) rfl dX12_atom_30
def m_term_94 (c_m_atom : aw_W → Option (Int × aw_W)) (c_m_term : aw_W → Option (Int × aw_W)) (c_m_sum : aw_W → Option (Int × aw_W)) (N : Nat) (x1 : Int) (w : aw_W) : Option (Int × aw_W) :=
  some (x1, w)
theorem w_m_term_94 {l : Launch} {K : aw_K} (N d : Nat) (hd : 4 ≤ d) (c_m_atom : aw_W → Option (Int × aw_W)) (c_m_term : aw_W → Option (Int × aw_W)) (c_m_sum : aw_W → Option (Int × aw_W)) (hc_m_atom : ∀ (w : aw_W) (y : Int) (v : aw_W), c_m_atom w = some (y, v) → aw_Met l K MX12_atom (d) [.inr (.inr 49)] w (some (.inl y), v)) (hc_m_term : ∀ (w : aw_W) (y : Int) (v : aw_W), c_m_term w = some (y, v) → aw_Met l K MX12_term (d) [.inr (.inr 49)] w (some (.inl y), v)) (hc_m_sum : ∀ (w : aw_W) (y : Int) (v : aw_W), c_m_sum w = some (y, v) → aw_Met l K MX12_sum (d) [.inr (.inr 49)] w (some (.inl y), v)) : ∀ (x1 : Int) (w : aw_W) (y : Int) (v : aw_W), m_term_94 c_m_atom c_m_term c_m_sum N x1 w = some (y, v) → aw_AW l K MX12_term (d + 1) 94 [(1, .inl x1)] [] w (some (.inl y), v) := by
  intro x1 w y v h
  unfold m_term_94 at h
  refine aw_iload_n (pc := 94) (q := 0) dX12_term_94 rfl ?_
  cases h
  exact aw_iret (pc := 95) rfl dX12_term_95
def m_term_87 (c_m_atom : aw_W → Option (Int × aw_W)) (c_m_term : aw_W → Option (Int × aw_W)) (c_m_sum : aw_W → Option (Int × aw_W)) (N : Nat) (k5 : Int → aw_W → Option (Int × aw_W)) (s0 : Int) (w : aw_W) : Option (Int × aw_W) :=
  aw_b2 (m_within N s0 w) fun r1 w1 =>
    k5 r1 w1
theorem w_m_term_87 {l : Launch} {K : aw_K} (N d : Nat) (hd : 4 ≤ d) (c_m_atom : aw_W → Option (Int × aw_W)) (c_m_term : aw_W → Option (Int × aw_W)) (c_m_sum : aw_W → Option (Int × aw_W)) (hc_m_atom : ∀ (w : aw_W) (y : Int) (v : aw_W), c_m_atom w = some (y, v) → aw_Met l K MX12_atom (d) [.inr (.inr 49)] w (some (.inl y), v)) (hc_m_term : ∀ (w : aw_W) (y : Int) (v : aw_W), c_m_term w = some (y, v) → aw_Met l K MX12_term (d) [.inr (.inr 49)] w (some (.inl y), v)) (hc_m_sum : ∀ (w : aw_W) (y : Int) (v : aw_W), c_m_sum w = some (y, v) → aw_Met l K MX12_sum (d) [.inr (.inr 49)] w (some (.inl y), v)) (k5 : Int → aw_W → Option (Int × aw_W)) (hk5 : ∀ (x1 : Int) (w : aw_W) (y : Int) (v : aw_W), k5 x1 w = some (y, v) → aw_AW l K MX12_term (d + 1) 5 [(0, .inr (.inr 49)), (1, .inl x1)] [] w (some (.inl y), v)) : ∀ (s0 : Int) (w : aw_W) (y : Int) (v : aw_W), m_term_87 c_m_atom c_m_term c_m_sum N k5 s0 w = some (y, v) → aw_AW l K MX12_term (d + 1) 87 [(0, .inr (.inr 49))] [.inr (.inl s0)] w (some (.inl y), v) := by
  intro s0 w y v h
  unfold m_term_87 at h
  obtain ⟨r1, w1, h1, h⟩ := aw_b2s h
  refine aw_callS (pc := 87) (as := [.inr (.inl s0)]) (st := []) (st' := [.inl r1]) dX12_term_87 cs_RX12_177 rfl rfl (Nat.le_of_ble_eq_true rfl) (w_m_within N d (by omega) _ _ _ _ h1) rfl ?_
  refine aw_istore_n (pc := 90) (ls' := [(1, .inl r1), (0, .inr (.inr 49))]) dX12_term_90 (by decide) rfl ?_
  refine aw_goto (pc := 91) (tgt := 5) dX12_term_91 (by decide) ?_
  exact aw_sel [1, 0] rfl (hk5 _ _ _ _ h)
def m_term_45 (c_m_atom : aw_W → Option (Int × aw_W)) (c_m_term : aw_W → Option (Int × aw_W)) (c_m_sum : aw_W → Option (Int × aw_W)) (N : Nat) (k5 : Int → aw_W → Option (Int × aw_W)) (x1 s0 : Int) (w : aw_W) : Option (Int × aw_W) :=
  aw_b2 (c_m_atom (aw_up w 49 10 (aw_w ((w 49 10) + 1)))) fun r1 w1 =>
    if s0 = 0 then
      if (aw_cmpL r1 0) = 0 then
        m_term_87 c_m_atom c_m_term c_m_sum N k5 0 w1
      else
        if ¬ r1 = 0 then
          m_term_87 c_m_atom c_m_term c_m_sum N k5 (aw_wl (Int.tdiv x1 r1)) w1
        else none
    else
      m_term_87 c_m_atom c_m_term c_m_sum N k5 (aw_wl (x1 * r1)) w1
theorem w_m_term_45 {l : Launch} {K : aw_K} (N d : Nat) (hd : 4 ≤ d) (c_m_atom : aw_W → Option (Int × aw_W)) (c_m_term : aw_W → Option (Int × aw_W)) (c_m_sum : aw_W → Option (Int × aw_W)) (hc_m_atom : ∀ (w : aw_W) (y : Int) (v : aw_W), c_m_atom w = some (y, v) → aw_Met l K MX12_atom (d) [.inr (.inr 49)] w (some (.inl y), v)) (hc_m_term : ∀ (w : aw_W) (y : Int) (v : aw_W), c_m_term w = some (y, v) → aw_Met l K MX12_term (d) [.inr (.inr 49)] w (some (.inl y), v)) (hc_m_sum : ∀ (w : aw_W) (y : Int) (v : aw_W), c_m_sum w = some (y, v) → aw_Met l K MX12_sum (d) [.inr (.inr 49)] w (some (.inl y), v)) (k5 : Int → aw_W → Option (Int × aw_W)) (hk5 : ∀ (x1 : Int) (w : aw_W) (y : Int) (v : aw_W), k5 x1 w = some (y, v) → aw_AW l K MX12_term (d + 1) 5 [(0, .inr (.inr 49)), (1, .inl x1)] [] w (some (.inl y), v)) : ∀ (x1 s0 : Int) (w : aw_W) (y : Int) (v : aw_W), m_term_45 c_m_atom c_m_term c_m_sum N k5 x1 s0 w = some (y, v) → aw_AW l K MX12_term (d + 1) 45 [(0, .inr (.inr 49)), (1, .inl x1)] [.inl s0] w (some (.inl y), v) := by
  intro x1 s0 w y v h
  unfold m_term_45 at h
  refine aw_istore_n (pc := 45) (ls' := [(2, .inl s0), (0, .inr (.inr 49)), (1, .inl x1)]) dX12_term_45 (by decide) rfl ?_
  refine aw_aload_n (pc := 46) (q := 1) dX12_term_46 rfl ?_
  refine aw_dup (pc := 47) dX12_term_47 rfl ?_
  refine aw_getf (pc := 48) (v := .inl (w 49 10)) dX12_term_48 fl_RX12_122 (by decide) rfl rfl rfl ?_
  refine aw_iconst (pc := 51) dX12_term_51 ⟨by decide, by decide⟩ ?_
  refine aw_iadd (pc := 52) dX12_term_52 ?_
  refine aw_puti (pc := 53) dX12_term_53 fp_RX12_122 (by decide) rfl rfl ?_
  refine aw_aload_n (pc := 56) (q := 1) dX12_term_56 rfl ?_
  obtain ⟨r1, w1, h1, h⟩ := aw_b2s h
  refine aw_callV (pc := 57) (as := []) (st := []) (st' := [.inl r1]) dX12_term_57 cv_RX12_174 (by decide) rfl rfl rfl rfl (Nat.le_of_ble_eq_true rfl) (hc_m_atom _ _ _ h1) rfl ?_
  refine aw_i2l (pc := 60) dX12_term_60 ?_
  refine aw_lstore_n (pc := 61) (ls' := [(3, .inr (.inl r1)), (2, .inl s0), (0, .inr (.inr 49)), (1, .inl x1)]) dX12_term_61 (by decide) rfl ?_
  refine aw_iload_n (pc := 62) (q := 1) dX12_term_62 rfl ?_
  refine aw_if_eq (pc := 63) (tgt := 73) dX12_term_63 (by decide) (fun hc => ?_) (fun hc => ?_)
  · rw [if_pos hc] at h
    refine aw_lload_n (pc := 73) (q := 0) dX12_term_73 rfl ?_
    refine aw_lconst (pc := 74) (x := 0) dX12_term_74 (by decide) ⟨by decide, by decide⟩ ?_
    refine aw_lcmp (pc := 75) dX12_term_75 ?_
    refine aw_if_ne (pc := 76) (tgt := 83) dX12_term_76 (by decide) (fun hc => ?_) (fun hc => ?_)
    · rw [if_neg hc] at h
      refine aw_iload_n (pc := 83) (q := 3) dX12_term_83 rfl ?_
      refine aw_i2l (pc := 84) dX12_term_84 ?_
      refine aw_lload_n (pc := 85) (q := 0) dX12_term_85 rfl ?_
      obtain ⟨hy, h⟩ := aw_cks h
      refine aw_ldiv (pc := 86) dX12_term_86 hy ?_
      exact aw_sel [2] rfl (w_m_term_87 N d hd c_m_atom c_m_term c_m_sum hc_m_atom hc_m_term hc_m_sum  _ hk5 _ _ _ _ h)
    · rw [if_pos hc] at h
      refine aw_lconst (pc := 79) (x := 0) dX12_term_79 (by decide) ⟨by decide, by decide⟩ ?_
      refine aw_goto (pc := 80) (tgt := 87) dX12_term_80 (by decide) ?_
      exact aw_sel [2] rfl (w_m_term_87 N d hd c_m_atom c_m_term c_m_sum hc_m_atom hc_m_term hc_m_sum  _ hk5 _ _ _ _ h)
  · rw [if_neg hc] at h
    refine aw_iload_n (pc := 66) (q := 3) dX12_term_66 rfl ?_
    refine aw_i2l (pc := 67) dX12_term_67 ?_
    refine aw_lload_n (pc := 68) (q := 0) dX12_term_68 rfl ?_
    refine aw_lmul (pc := 69) dX12_term_69 ?_
    refine aw_goto (pc := 70) (tgt := 87) dX12_term_70 (by decide) ?_
    exact aw_sel [2] rfl (w_m_term_87 N d hd c_m_atom c_m_term c_m_sum hc_m_atom hc_m_term hc_m_sum  _ hk5 _ _ _ _ h)
def m_term_31 (c_m_atom : aw_W → Option (Int × aw_W)) (c_m_term : aw_W → Option (Int × aw_W)) (c_m_sum : aw_W → Option (Int × aw_W)) (N : Nat) (k5 : Int → aw_W → Option (Int × aw_W)) (x1 : Int) (w : aw_W) : Option (Int × aw_W) :=
  aw_b2 (m_look N w) fun r1 w1 =>
    if r1 = 42 then
      m_term_45 c_m_atom c_m_term c_m_sum N k5 x1 1 w1
    else
      m_term_45 c_m_atom c_m_term c_m_sum N k5 x1 0 w1
theorem w_m_term_31 {l : Launch} {K : aw_K} (N d : Nat) (hd : 4 ≤ d) (c_m_atom : aw_W → Option (Int × aw_W)) (c_m_term : aw_W → Option (Int × aw_W)) (c_m_sum : aw_W → Option (Int × aw_W)) (hc_m_atom : ∀ (w : aw_W) (y : Int) (v : aw_W), c_m_atom w = some (y, v) → aw_Met l K MX12_atom (d) [.inr (.inr 49)] w (some (.inl y), v)) (hc_m_term : ∀ (w : aw_W) (y : Int) (v : aw_W), c_m_term w = some (y, v) → aw_Met l K MX12_term (d) [.inr (.inr 49)] w (some (.inl y), v)) (hc_m_sum : ∀ (w : aw_W) (y : Int) (v : aw_W), c_m_sum w = some (y, v) → aw_Met l K MX12_sum (d) [.inr (.inr 49)] w (some (.inl y), v)) (k5 : Int → aw_W → Option (Int × aw_W)) (hk5 : ∀ (x1 : Int) (w : aw_W) (y : Int) (v : aw_W), k5 x1 w = some (y, v) → aw_AW l K MX12_term (d + 1) 5 [(0, .inr (.inr 49)), (1, .inl x1)] [] w (some (.inl y), v)) : ∀ (x1 : Int) (w : aw_W) (y : Int) (v : aw_W), m_term_31 c_m_atom c_m_term c_m_sum N k5 x1 w = some (y, v) → aw_AW l K MX12_term (d + 1) 31 [(0, .inr (.inr 49)), (1, .inl x1)] [] w (some (.inl y), v) := by
  intro x1 w y v h
  unfold m_term_31 at h
  refine aw_aload_n (pc := 31) (q := 0) dX12_term_31 rfl ?_
  obtain ⟨r1, w1, h1, h⟩ := aw_b2s h
  refine aw_callV (pc := 32) (as := []) (st := []) (st' := [.inl r1]) dX12_term_32 cv_RX12_141 (by decide) rfl rfl rfl rfl (Nat.le_of_ble_eq_true rfl) (w_m_look N d (by omega) _ _ _ h1) rfl ?_
  refine aw_bipush (pc := 35) dX12_term_35 (by decide) ⟨by decide, by decide⟩ ?_
  refine aw_icmp_ne (pc := 37) (tgt := 44) dX12_term_37 (by decide) (fun hc => ?_) (fun hc => ?_)
  · rw [if_neg hc] at h
    refine aw_iconst (pc := 44) dX12_term_44 ⟨by decide, by decide⟩ ?_
    exact aw_sel [0, 1] rfl (w_m_term_45 N d hd c_m_atom c_m_term c_m_sum hc_m_atom hc_m_term hc_m_sum  _ hk5 _ _ _ _ _ h)
  · rw [if_pos hc] at h
    refine aw_iconst (pc := 40) dX12_term_40 ⟨by decide, by decide⟩ ?_
    refine aw_goto (pc := 41) (tgt := 45) dX12_term_41 (by decide) ?_
    exact aw_sel [0, 1] rfl (w_m_term_45 N d hd c_m_atom c_m_term c_m_sum hc_m_atom hc_m_term hc_m_sum  _ hk5 _ _ _ _ _ h)
def m_term_5 (c_m_atom : aw_W → Option (Int × aw_W)) (c_m_term : aw_W → Option (Int × aw_W)) (c_m_sum : aw_W → Option (Int × aw_W)) (N : Nat) : Nat → Int → aw_W → Option (Int × aw_W)
  | 0, _, _ => none
  | n + 1, x1, w =>
    if (w 49 11) = (-1) then
      aw_b2 (m_look N w) fun r1 w1 =>
        if r1 = 42 then
          m_term_31 c_m_atom c_m_term c_m_sum N (m_term_5 c_m_atom c_m_term c_m_sum N n) x1 w1
        else
          aw_b2 (m_look N w1) fun r2 w2 =>
            if r2 = 47 then
              m_term_31 c_m_atom c_m_term c_m_sum N (m_term_5 c_m_atom c_m_term c_m_sum N n) x1 w2
            else
              m_term_94 c_m_atom c_m_term c_m_sum N x1 w2
    else
      m_term_94 c_m_atom c_m_term c_m_sum N x1 w
theorem w_m_term_5 {l : Launch} {K : aw_K} (N d : Nat) (hd : 4 ≤ d) (c_m_atom : aw_W → Option (Int × aw_W)) (c_m_term : aw_W → Option (Int × aw_W)) (c_m_sum : aw_W → Option (Int × aw_W)) (hc_m_atom : ∀ (w : aw_W) (y : Int) (v : aw_W), c_m_atom w = some (y, v) → aw_Met l K MX12_atom (d) [.inr (.inr 49)] w (some (.inl y), v)) (hc_m_term : ∀ (w : aw_W) (y : Int) (v : aw_W), c_m_term w = some (y, v) → aw_Met l K MX12_term (d) [.inr (.inr 49)] w (some (.inl y), v)) (hc_m_sum : ∀ (w : aw_W) (y : Int) (v : aw_W), c_m_sum w = some (y, v) → aw_Met l K MX12_sum (d) [.inr (.inr 49)] w (some (.inl y), v)) : ∀ (n : Nat) (x1 : Int) (w : aw_W) (y : Int) (v : aw_W), m_term_5 c_m_atom c_m_term c_m_sum N n x1 w = some (y, v) → aw_AW l K MX12_term (d + 1) 5 [(0, .inr (.inr 49)), (1, .inl x1)] [] w (some (.inl y), v) := by
  intro n
  induction n with
  | zero => intro x1 w y v h; rw [m_term_5] at h; cases h
  | succ n ih =>
    intro x1 w y v h
    rw [m_term_5] at h
    refine aw_aload_n (pc := 5) (q := 0) dX12_term_5 rfl ?_
    refine aw_getf (pc := 6) (v := .inl (w 49 11)) dX12_term_6 fl_RX12_131 (by decide) rfl rfl rfl ?_
    refine aw_iconst (pc := 9) dX12_term_9 ⟨by decide, by decide⟩ ?_
    refine aw_icmp_ne (pc := 10) (tgt := 94) dX12_term_10 (by decide) (fun hc => ?_) (fun hc => ?_)
    · rw [if_neg hc] at h
      exact aw_sel [1] rfl (w_m_term_94 N d hd c_m_atom c_m_term c_m_sum hc_m_atom hc_m_term hc_m_sum  _ _ _ _ h)
    · rw [if_pos hc] at h
      refine aw_aload_n (pc := 13) (q := 0) dX12_term_13 rfl ?_
      obtain ⟨r1, w1, h1, h⟩ := aw_b2s h
      refine aw_callV (pc := 14) (as := []) (st := []) (st' := [.inl r1]) dX12_term_14 cv_RX12_141 (by decide) rfl rfl rfl rfl (Nat.le_of_ble_eq_true rfl) (w_m_look N d (by omega) _ _ _ h1) rfl ?_
      refine aw_bipush (pc := 17) dX12_term_17 (by decide) ⟨by decide, by decide⟩ ?_
      refine aw_icmp_eq (pc := 19) (tgt := 31) dX12_term_19 (by decide) (fun hc => ?_) (fun hc => ?_)
      · rw [if_pos hc] at h
        exact aw_sel [0, 1] rfl (w_m_term_31 N d hd c_m_atom c_m_term c_m_sum hc_m_atom hc_m_term hc_m_sum  _ ih _ _ _ _ h)
      · rw [if_neg hc] at h
        refine aw_aload_n (pc := 22) (q := 0) dX12_term_22 rfl ?_
        obtain ⟨r2, w2, h2, h⟩ := aw_b2s h
        refine aw_callV (pc := 23) (as := []) (st := []) (st' := [.inl r2]) dX12_term_23 cv_RX12_141 (by decide) rfl rfl rfl rfl (Nat.le_of_ble_eq_true rfl) (w_m_look N d (by omega) _ _ _ h2) rfl ?_
        refine aw_bipush (pc := 26) dX12_term_26 (by decide) ⟨by decide, by decide⟩ ?_
        refine aw_icmp_ne (pc := 28) (tgt := 94) dX12_term_28 (by decide) (fun hc => ?_) (fun hc => ?_)
        · rw [if_neg hc] at h
          exact aw_sel [1] rfl (w_m_term_94 N d hd c_m_atom c_m_term c_m_sum hc_m_atom hc_m_term hc_m_sum  _ _ _ _ h)
        · rw [if_pos hc] at h
          exact aw_sel [0, 1] rfl (w_m_term_31 N d hd c_m_atom c_m_term c_m_sum hc_m_atom hc_m_term hc_m_sum  _ ih _ _ _ _ h)
def m_term_b (c_m_atom : aw_W → Option (Int × aw_W)) (c_m_term : aw_W → Option (Int × aw_W)) (c_m_sum : aw_W → Option (Int × aw_W)) (N : Nat) (w : aw_W) : Option (Int × aw_W) :=
  aw_b2 (c_m_atom w) fun r1 w1 =>
    m_term_5 c_m_atom c_m_term c_m_sum N N r1 w1
theorem w_m_term_b {l : Launch} {K : aw_K} (N d : Nat) (hd : 4 ≤ d) (c_m_atom : aw_W → Option (Int × aw_W)) (c_m_term : aw_W → Option (Int × aw_W)) (c_m_sum : aw_W → Option (Int × aw_W)) (hc_m_atom : ∀ (w : aw_W) (y : Int) (v : aw_W), c_m_atom w = some (y, v) → aw_Met l K MX12_atom (d) [.inr (.inr 49)] w (some (.inl y), v)) (hc_m_term : ∀ (w : aw_W) (y : Int) (v : aw_W), c_m_term w = some (y, v) → aw_Met l K MX12_term (d) [.inr (.inr 49)] w (some (.inl y), v)) (hc_m_sum : ∀ (w : aw_W) (y : Int) (v : aw_W), c_m_sum w = some (y, v) → aw_Met l K MX12_sum (d) [.inr (.inr 49)] w (some (.inl y), v)) : ∀ (w : aw_W) (y : Int) (v : aw_W), m_term_b c_m_atom c_m_term c_m_sum N w = some (y, v) → aw_Met l K MX12_term (d + 1) [.inr (.inr 49)] w (some (.inl y), v) := by
  intro w y v h
  unfold m_term_b at h
  refine aw_enter rfl (Nat.le_of_ble_eq_true rfl) ?_
  show aw_AW l K MX12_term (d + 1) 0 [(0, .inr (.inr 49))] [] w (some (.inl y), v)
  refine aw_aload_n (pc := 0) (q := 0) dX12_term_0 rfl ?_
  obtain ⟨r1, w1, h1, h⟩ := aw_b2s h
  refine aw_callV (pc := 1) (as := []) (st := []) (st' := [.inl r1]) dX12_term_1 cv_RX12_174 (by decide) rfl rfl rfl rfl (Nat.le_of_ble_eq_true rfl) (hc_m_atom _ _ _ h1) rfl ?_
  refine aw_istore_n (pc := 4) (ls' := [(1, .inl r1), (0, .inr (.inr 49))]) dX12_term_4 (by decide) rfl ?_
  exact aw_sel [1, 0] rfl (w_m_term_5 N d hd c_m_atom c_m_term c_m_sum hc_m_atom hc_m_term hc_m_sum  N _ _ _ _ h)
def m_sum_84 (c_m_atom : aw_W → Option (Int × aw_W)) (c_m_term : aw_W → Option (Int × aw_W)) (c_m_sum : aw_W → Option (Int × aw_W)) (N : Nat) (x1 : Int) (w : aw_W) : Option (Int × aw_W) :=
  some (x1, w)
theorem w_m_sum_84 {l : Launch} {K : aw_K} (N d : Nat) (hd : 4 ≤ d) (c_m_atom : aw_W → Option (Int × aw_W)) (c_m_term : aw_W → Option (Int × aw_W)) (c_m_sum : aw_W → Option (Int × aw_W)) (hc_m_atom : ∀ (w : aw_W) (y : Int) (v : aw_W), c_m_atom w = some (y, v) → aw_Met l K MX12_atom (d) [.inr (.inr 49)] w (some (.inl y), v)) (hc_m_term : ∀ (w : aw_W) (y : Int) (v : aw_W), c_m_term w = some (y, v) → aw_Met l K MX12_term (d) [.inr (.inr 49)] w (some (.inl y), v)) (hc_m_sum : ∀ (w : aw_W) (y : Int) (v : aw_W), c_m_sum w = some (y, v) → aw_Met l K MX12_sum (d) [.inr (.inr 49)] w (some (.inl y), v)) : ∀ (x1 : Int) (w : aw_W) (y : Int) (v : aw_W), m_sum_84 c_m_atom c_m_term c_m_sum N x1 w = some (y, v) → aw_AW l K MX12_sum (d + 1) 84 [(1, .inl x1)] [] w (some (.inl y), v) := by
  intro x1 w y v h
  unfold m_sum_84 at h
  refine aw_iload_n (pc := 84) (q := 0) dX12_sum_84 rfl ?_
  cases h
  exact aw_iret (pc := 85) rfl dX12_sum_85
def m_sum_77 (c_m_atom : aw_W → Option (Int × aw_W)) (c_m_term : aw_W → Option (Int × aw_W)) (c_m_sum : aw_W → Option (Int × aw_W)) (N : Nat) (k5 : Int → aw_W → Option (Int × aw_W)) (s0 : Int) (w : aw_W) : Option (Int × aw_W) :=
  aw_b2 (m_within N s0 w) fun r1 w1 =>
    k5 r1 w1
theorem w_m_sum_77 {l : Launch} {K : aw_K} (N d : Nat) (hd : 4 ≤ d) (c_m_atom : aw_W → Option (Int × aw_W)) (c_m_term : aw_W → Option (Int × aw_W)) (c_m_sum : aw_W → Option (Int × aw_W)) (hc_m_atom : ∀ (w : aw_W) (y : Int) (v : aw_W), c_m_atom w = some (y, v) → aw_Met l K MX12_atom (d) [.inr (.inr 49)] w (some (.inl y), v)) (hc_m_term : ∀ (w : aw_W) (y : Int) (v : aw_W), c_m_term w = some (y, v) → aw_Met l K MX12_term (d) [.inr (.inr 49)] w (some (.inl y), v)) (hc_m_sum : ∀ (w : aw_W) (y : Int) (v : aw_W), c_m_sum w = some (y, v) → aw_Met l K MX12_sum (d) [.inr (.inr 49)] w (some (.inl y), v)) (k5 : Int → aw_W → Option (Int × aw_W)) (hk5 : ∀ (x1 : Int) (w : aw_W) (y : Int) (v : aw_W), k5 x1 w = some (y, v) → aw_AW l K MX12_sum (d + 1) 5 [(0, .inr (.inr 49)), (1, .inl x1)] [] w (some (.inl y), v)) : ∀ (s0 : Int) (w : aw_W) (y : Int) (v : aw_W), m_sum_77 c_m_atom c_m_term c_m_sum N k5 s0 w = some (y, v) → aw_AW l K MX12_sum (d + 1) 77 [(0, .inr (.inr 49))] [.inr (.inl s0)] w (some (.inl y), v) := by
  intro s0 w y v h
  unfold m_sum_77 at h
  obtain ⟨r1, w1, h1, h⟩ := aw_b2s h
  refine aw_callS (pc := 77) (as := [.inr (.inl s0)]) (st := []) (st' := [.inl r1]) dX12_sum_77 cs_RX12_177 rfl rfl (Nat.le_of_ble_eq_true rfl) (w_m_within N d (by omega) _ _ _ _ h1) rfl ?_
  refine aw_istore_n (pc := 80) (ls' := [(1, .inl r1), (0, .inr (.inr 49))]) dX12_sum_80 (by decide) rfl ?_
  refine aw_goto (pc := 81) (tgt := 5) dX12_sum_81 (by decide) ?_
  exact aw_sel [1, 0] rfl (hk5 _ _ _ _ h)
def m_sum_45 (c_m_atom : aw_W → Option (Int × aw_W)) (c_m_term : aw_W → Option (Int × aw_W)) (c_m_sum : aw_W → Option (Int × aw_W)) (N : Nat) (k5 : Int → aw_W → Option (Int × aw_W)) (x1 s0 : Int) (w : aw_W) : Option (Int × aw_W) :=
  aw_b2 (c_m_term (aw_up w 49 10 (aw_w ((w 49 10) + 1)))) fun r1 w1 =>
    if s0 = 0 then
      m_sum_77 c_m_atom c_m_term c_m_sum N k5 (aw_wl (x1 - r1)) w1
    else
      m_sum_77 c_m_atom c_m_term c_m_sum N k5 (aw_wl (x1 + r1)) w1
theorem w_m_sum_45 {l : Launch} {K : aw_K} (N d : Nat) (hd : 4 ≤ d) (c_m_atom : aw_W → Option (Int × aw_W)) (c_m_term : aw_W → Option (Int × aw_W)) (c_m_sum : aw_W → Option (Int × aw_W)) (hc_m_atom : ∀ (w : aw_W) (y : Int) (v : aw_W), c_m_atom w = some (y, v) → aw_Met l K MX12_atom (d) [.inr (.inr 49)] w (some (.inl y), v)) (hc_m_term : ∀ (w : aw_W) (y : Int) (v : aw_W), c_m_term w = some (y, v) → aw_Met l K MX12_term (d) [.inr (.inr 49)] w (some (.inl y), v)) (hc_m_sum : ∀ (w : aw_W) (y : Int) (v : aw_W), c_m_sum w = some (y, v) → aw_Met l K MX12_sum (d) [.inr (.inr 49)] w (some (.inl y), v)) (k5 : Int → aw_W → Option (Int × aw_W)) (hk5 : ∀ (x1 : Int) (w : aw_W) (y : Int) (v : aw_W), k5 x1 w = some (y, v) → aw_AW l K MX12_sum (d + 1) 5 [(0, .inr (.inr 49)), (1, .inl x1)] [] w (some (.inl y), v)) : ∀ (x1 s0 : Int) (w : aw_W) (y : Int) (v : aw_W), m_sum_45 c_m_atom c_m_term c_m_sum N k5 x1 s0 w = some (y, v) → aw_AW l K MX12_sum (d + 1) 45 [(0, .inr (.inr 49)), (1, .inl x1)] [.inl s0] w (some (.inl y), v) := by
  intro x1 s0 w y v h
  unfold m_sum_45 at h
  refine aw_istore_n (pc := 45) (ls' := [(2, .inl s0), (0, .inr (.inr 49)), (1, .inl x1)]) dX12_sum_45 (by decide) rfl ?_
  refine aw_aload_n (pc := 46) (q := 1) dX12_sum_46 rfl ?_
  refine aw_dup (pc := 47) dX12_sum_47 rfl ?_
  refine aw_getf (pc := 48) (v := .inl (w 49 10)) dX12_sum_48 fl_RX12_122 (by decide) rfl rfl rfl ?_
  refine aw_iconst (pc := 51) dX12_sum_51 ⟨by decide, by decide⟩ ?_
  refine aw_iadd (pc := 52) dX12_sum_52 ?_
  refine aw_puti (pc := 53) dX12_sum_53 fp_RX12_122 (by decide) rfl rfl ?_
  refine aw_aload_n (pc := 56) (q := 1) dX12_sum_56 rfl ?_
  obtain ⟨r1, w1, h1, h⟩ := aw_b2s h
  refine aw_callV (pc := 57) (as := []) (st := []) (st' := [.inl r1]) dX12_sum_57 cv_RX12_181 (by decide) rfl rfl rfl rfl (Nat.le_of_ble_eq_true rfl) (hc_m_term _ _ _ h1) rfl ?_
  refine aw_i2l (pc := 60) dX12_sum_60 ?_
  refine aw_lstore_n (pc := 61) (ls' := [(3, .inr (.inl r1)), (2, .inl s0), (0, .inr (.inr 49)), (1, .inl x1)]) dX12_sum_61 (by decide) rfl ?_
  refine aw_iload_n (pc := 62) (q := 1) dX12_sum_62 rfl ?_
  refine aw_if_eq (pc := 63) (tgt := 73) dX12_sum_63 (by decide) (fun hc => ?_) (fun hc => ?_)
  · rw [if_pos hc] at h
    refine aw_iload_n (pc := 73) (q := 3) dX12_sum_73 rfl ?_
    refine aw_i2l (pc := 74) dX12_sum_74 ?_
    refine aw_lload_n (pc := 75) (q := 0) dX12_sum_75 rfl ?_
    refine aw_lsub (pc := 76) dX12_sum_76 ?_
    exact aw_sel [2] rfl (w_m_sum_77 N d hd c_m_atom c_m_term c_m_sum hc_m_atom hc_m_term hc_m_sum  _ hk5 _ _ _ _ h)
  · rw [if_neg hc] at h
    refine aw_iload_n (pc := 66) (q := 3) dX12_sum_66 rfl ?_
    refine aw_i2l (pc := 67) dX12_sum_67 ?_
    refine aw_lload_n (pc := 68) (q := 0) dX12_sum_68 rfl ?_
    refine aw_ladd (pc := 69) dX12_sum_69 ?_
    refine aw_goto (pc := 70) (tgt := 77) dX12_sum_70 (by decide) ?_
    exact aw_sel [2] rfl (w_m_sum_77 N d hd c_m_atom c_m_term c_m_sum hc_m_atom hc_m_term hc_m_sum  _ hk5 _ _ _ _ h)
def m_sum_31 (c_m_atom : aw_W → Option (Int × aw_W)) (c_m_term : aw_W → Option (Int × aw_W)) (c_m_sum : aw_W → Option (Int × aw_W)) (N : Nat) (k5 : Int → aw_W → Option (Int × aw_W)) (x1 : Int) (w : aw_W) : Option (Int × aw_W) :=
  aw_b2 (m_look N w) fun r1 w1 =>
    if r1 = 43 then
      m_sum_45 c_m_atom c_m_term c_m_sum N k5 x1 1 w1
    else
      m_sum_45 c_m_atom c_m_term c_m_sum N k5 x1 0 w1
theorem w_m_sum_31 {l : Launch} {K : aw_K} (N d : Nat) (hd : 4 ≤ d) (c_m_atom : aw_W → Option (Int × aw_W)) (c_m_term : aw_W → Option (Int × aw_W)) (c_m_sum : aw_W → Option (Int × aw_W)) (hc_m_atom : ∀ (w : aw_W) (y : Int) (v : aw_W), c_m_atom w = some (y, v) → aw_Met l K MX12_atom (d) [.inr (.inr 49)] w (some (.inl y), v)) (hc_m_term : ∀ (w : aw_W) (y : Int) (v : aw_W), c_m_term w = some (y, v) → aw_Met l K MX12_term (d) [.inr (.inr 49)] w (some (.inl y), v)) (hc_m_sum : ∀ (w : aw_W) (y : Int) (v : aw_W), c_m_sum w = some (y, v) → aw_Met l K MX12_sum (d) [.inr (.inr 49)] w (some (.inl y), v)) (k5 : Int → aw_W → Option (Int × aw_W)) (hk5 : ∀ (x1 : Int) (w : aw_W) (y : Int) (v : aw_W), k5 x1 w = some (y, v) → aw_AW l K MX12_sum (d + 1) 5 [(0, .inr (.inr 49)), (1, .inl x1)] [] w (some (.inl y), v)) : ∀ (x1 : Int) (w : aw_W) (y : Int) (v : aw_W), m_sum_31 c_m_atom c_m_term c_m_sum N k5 x1 w = some (y, v) → aw_AW l K MX12_sum (d + 1) 31 [(0, .inr (.inr 49)), (1, .inl x1)] [] w (some (.inl y), v) := by
  intro x1 w y v h
  unfold m_sum_31 at h
  refine aw_aload_n (pc := 31) (q := 0) dX12_sum_31 rfl ?_
  obtain ⟨r1, w1, h1, h⟩ := aw_b2s h
  refine aw_callV (pc := 32) (as := []) (st := []) (st' := [.inl r1]) dX12_sum_32 cv_RX12_141 (by decide) rfl rfl rfl rfl (Nat.le_of_ble_eq_true rfl) (w_m_look N d (by omega) _ _ _ h1) rfl ?_
  refine aw_bipush (pc := 35) dX12_sum_35 (by decide) ⟨by decide, by decide⟩ ?_
  refine aw_icmp_ne (pc := 37) (tgt := 44) dX12_sum_37 (by decide) (fun hc => ?_) (fun hc => ?_)
  · rw [if_neg hc] at h
    refine aw_iconst (pc := 44) dX12_sum_44 ⟨by decide, by decide⟩ ?_
    exact aw_sel [0, 1] rfl (w_m_sum_45 N d hd c_m_atom c_m_term c_m_sum hc_m_atom hc_m_term hc_m_sum  _ hk5 _ _ _ _ _ h)
  · rw [if_pos hc] at h
    refine aw_iconst (pc := 40) dX12_sum_40 ⟨by decide, by decide⟩ ?_
    refine aw_goto (pc := 41) (tgt := 45) dX12_sum_41 (by decide) ?_
    exact aw_sel [0, 1] rfl (w_m_sum_45 N d hd c_m_atom c_m_term c_m_sum hc_m_atom hc_m_term hc_m_sum  _ hk5 _ _ _ _ _ h)
def m_sum_5 (c_m_atom : aw_W → Option (Int × aw_W)) (c_m_term : aw_W → Option (Int × aw_W)) (c_m_sum : aw_W → Option (Int × aw_W)) (N : Nat) : Nat → Int → aw_W → Option (Int × aw_W)
  | 0, _, _ => none
  | n + 1, x1, w =>
    if (w 49 11) = (-1) then
      aw_b2 (m_look N w) fun r1 w1 =>
        if r1 = 43 then
          m_sum_31 c_m_atom c_m_term c_m_sum N (m_sum_5 c_m_atom c_m_term c_m_sum N n) x1 w1
        else
          aw_b2 (m_look N w1) fun r2 w2 =>
            if r2 = 45 then
              m_sum_31 c_m_atom c_m_term c_m_sum N (m_sum_5 c_m_atom c_m_term c_m_sum N n) x1 w2
            else
              m_sum_84 c_m_atom c_m_term c_m_sum N x1 w2
    else
      m_sum_84 c_m_atom c_m_term c_m_sum N x1 w
theorem w_m_sum_5 {l : Launch} {K : aw_K} (N d : Nat) (hd : 4 ≤ d) (c_m_atom : aw_W → Option (Int × aw_W)) (c_m_term : aw_W → Option (Int × aw_W)) (c_m_sum : aw_W → Option (Int × aw_W)) (hc_m_atom : ∀ (w : aw_W) (y : Int) (v : aw_W), c_m_atom w = some (y, v) → aw_Met l K MX12_atom (d) [.inr (.inr 49)] w (some (.inl y), v)) (hc_m_term : ∀ (w : aw_W) (y : Int) (v : aw_W), c_m_term w = some (y, v) → aw_Met l K MX12_term (d) [.inr (.inr 49)] w (some (.inl y), v)) (hc_m_sum : ∀ (w : aw_W) (y : Int) (v : aw_W), c_m_sum w = some (y, v) → aw_Met l K MX12_sum (d) [.inr (.inr 49)] w (some (.inl y), v)) : ∀ (n : Nat) (x1 : Int) (w : aw_W) (y : Int) (v : aw_W), m_sum_5 c_m_atom c_m_term c_m_sum N n x1 w = some (y, v) → aw_AW l K MX12_sum (d + 1) 5 [(0, .inr (.inr 49)), (1, .inl x1)] [] w (some (.inl y), v) := by
  intro n
  induction n with
  | zero => intro x1 w y v h; rw [m_sum_5] at h; cases h
  | succ n ih =>
    intro x1 w y v h
    rw [m_sum_5] at h
    refine aw_aload_n (pc := 5) (q := 0) dX12_sum_5 rfl ?_
    refine aw_getf (pc := 6) (v := .inl (w 49 11)) dX12_sum_6 fl_RX12_131 (by decide) rfl rfl rfl ?_
    refine aw_iconst (pc := 9) dX12_sum_9 ⟨by decide, by decide⟩ ?_
    refine aw_icmp_ne (pc := 10) (tgt := 84) dX12_sum_10 (by decide) (fun hc => ?_) (fun hc => ?_)
    · rw [if_neg hc] at h
      exact aw_sel [1] rfl (w_m_sum_84 N d hd c_m_atom c_m_term c_m_sum hc_m_atom hc_m_term hc_m_sum  _ _ _ _ h)
    · rw [if_pos hc] at h
      refine aw_aload_n (pc := 13) (q := 0) dX12_sum_13 rfl ?_
      obtain ⟨r1, w1, h1, h⟩ := aw_b2s h
      refine aw_callV (pc := 14) (as := []) (st := []) (st' := [.inl r1]) dX12_sum_14 cv_RX12_141 (by decide) rfl rfl rfl rfl (Nat.le_of_ble_eq_true rfl) (w_m_look N d (by omega) _ _ _ h1) rfl ?_
      refine aw_bipush (pc := 17) dX12_sum_17 (by decide) ⟨by decide, by decide⟩ ?_
      refine aw_icmp_eq (pc := 19) (tgt := 31) dX12_sum_19 (by decide) (fun hc => ?_) (fun hc => ?_)
      · rw [if_pos hc] at h
        exact aw_sel [0, 1] rfl (w_m_sum_31 N d hd c_m_atom c_m_term c_m_sum hc_m_atom hc_m_term hc_m_sum  _ ih _ _ _ _ h)
      · rw [if_neg hc] at h
        refine aw_aload_n (pc := 22) (q := 0) dX12_sum_22 rfl ?_
        obtain ⟨r2, w2, h2, h⟩ := aw_b2s h
        refine aw_callV (pc := 23) (as := []) (st := []) (st' := [.inl r2]) dX12_sum_23 cv_RX12_141 (by decide) rfl rfl rfl rfl (Nat.le_of_ble_eq_true rfl) (w_m_look N d (by omega) _ _ _ h2) rfl ?_
        refine aw_bipush (pc := 26) dX12_sum_26 (by decide) ⟨by decide, by decide⟩ ?_
        refine aw_icmp_ne (pc := 28) (tgt := 84) dX12_sum_28 (by decide) (fun hc => ?_) (fun hc => ?_)
        · rw [if_neg hc] at h
          exact aw_sel [1] rfl (w_m_sum_84 N d hd c_m_atom c_m_term c_m_sum hc_m_atom hc_m_term hc_m_sum  _ _ _ _ h)
        · rw [if_pos hc] at h
          exact aw_sel [0, 1] rfl (w_m_sum_31 N d hd c_m_atom c_m_term c_m_sum hc_m_atom hc_m_term hc_m_sum  _ ih _ _ _ _ h)
def m_sum_b (c_m_atom : aw_W → Option (Int × aw_W)) (c_m_term : aw_W → Option (Int × aw_W)) (c_m_sum : aw_W → Option (Int × aw_W)) (N : Nat) (w : aw_W) : Option (Int × aw_W) :=
  aw_b2 (c_m_term w) fun r1 w1 =>
    m_sum_5 c_m_atom c_m_term c_m_sum N N r1 w1
theorem w_m_sum_b {l : Launch} {K : aw_K} (N d : Nat) (hd : 4 ≤ d) (c_m_atom : aw_W → Option (Int × aw_W)) (c_m_term : aw_W → Option (Int × aw_W)) (c_m_sum : aw_W → Option (Int × aw_W)) (hc_m_atom : ∀ (w : aw_W) (y : Int) (v : aw_W), c_m_atom w = some (y, v) → aw_Met l K MX12_atom (d) [.inr (.inr 49)] w (some (.inl y), v)) (hc_m_term : ∀ (w : aw_W) (y : Int) (v : aw_W), c_m_term w = some (y, v) → aw_Met l K MX12_term (d) [.inr (.inr 49)] w (some (.inl y), v)) (hc_m_sum : ∀ (w : aw_W) (y : Int) (v : aw_W), c_m_sum w = some (y, v) → aw_Met l K MX12_sum (d) [.inr (.inr 49)] w (some (.inl y), v)) : ∀ (w : aw_W) (y : Int) (v : aw_W), m_sum_b c_m_atom c_m_term c_m_sum N w = some (y, v) → aw_Met l K MX12_sum (d + 1) [.inr (.inr 49)] w (some (.inl y), v) := by
  intro w y v h
  unfold m_sum_b at h
  refine aw_enter rfl (Nat.le_of_ble_eq_true rfl) ?_
  show aw_AW l K MX12_sum (d + 1) 0 [(0, .inr (.inr 49))] [] w (some (.inl y), v)
  refine aw_aload_n (pc := 0) (q := 0) dX12_sum_0 rfl ?_
  obtain ⟨r1, w1, h1, h⟩ := aw_b2s h
  refine aw_callV (pc := 1) (as := []) (st := []) (st' := [.inl r1]) dX12_sum_1 cv_RX12_181 (by decide) rfl rfl rfl rfl (Nat.le_of_ble_eq_true rfl) (hc_m_term _ _ _ h1) rfl ?_
  refine aw_istore_n (pc := 4) (ls' := [(1, .inl r1), (0, .inr (.inr 49))]) dX12_sum_4 (by decide) rfl ?_
  exact aw_sel [1, 0] rfl (w_m_sum_5 N d hd c_m_atom c_m_term c_m_sum hc_m_atom hc_m_term hc_m_sum  N _ _ _ _ h)
def g_m_atom (N : Nat) : Nat → (aw_W → Option (Int × aw_W)) × (aw_W → Option (Int × aw_W)) × (aw_W → Option (Int × aw_W))
  | 0 => ((fun _ => none), (fun _ => none), (fun _ => none))
  | D + 1 => (m_atom_b (g_m_atom N D).1 (g_m_atom N D).2.1 (g_m_atom N D).2.2 N, m_term_b (g_m_atom N D).1 (g_m_atom N D).2.1 (g_m_atom N D).2.2 N, m_sum_b (g_m_atom N D).1 (g_m_atom N D).2.1 (g_m_atom N D).2.2 N)
def m_atom (N : Nat) : aw_W → Option (Int × aw_W) := (g_m_atom N 60).1
def m_term (N : Nat) : aw_W → Option (Int × aw_W) := (g_m_atom N 60).2.1
def m_sum (N : Nat) : aw_W → Option (Int × aw_W) := (g_m_atom N 60).2.2
theorem w_g_m_atom {l : Launch} {K : aw_K} (N : Nat) : ∀ D d : Nat, 4 + D ≤ d → (∀ (w : aw_W) (y : Int) (v : aw_W), (g_m_atom N D).1 w = some (y, v) → aw_Met l K MX12_atom (d) [.inr (.inr 49)] w (some (.inl y), v)) ∧ (∀ (w : aw_W) (y : Int) (v : aw_W), (g_m_atom N D).2.1 w = some (y, v) → aw_Met l K MX12_term (d) [.inr (.inr 49)] w (some (.inl y), v)) ∧ (∀ (w : aw_W) (y : Int) (v : aw_W), (g_m_atom N D).2.2 w = some (y, v) → aw_Met l K MX12_sum (d) [.inr (.inr 49)] w (some (.inl y), v))
  | 0, d, _ => ⟨fun _ _ _ h => (by cases h), fun _ _ _ h => (by cases h), fun _ _ _ h => (by cases h)⟩
  | D + 1, 0, h => absurd h (by omega)
  | D + 1, d + 1, h => by
    have ih := w_g_m_atom (l := l) (K := K) N D d (by omega)
    exact ⟨w_m_atom_b N d (by omega) _ _ _ ih.1 ih.2.1 ih.2.2, w_m_term_b N d (by omega) _ _ _ ih.1 ih.2.1 ih.2.2, w_m_sum_b N d (by omega) _ _ _ ih.1 ih.2.1 ih.2.2⟩
theorem w_m_atom {l : Launch} {K : aw_K} (N d : Nat) (hd : 64 ≤ d) : ∀ (w : aw_W) (y : Int) (v : aw_W), m_atom N w = some (y, v) → aw_Met l K MX12_atom (d) [.inr (.inr 49)] w (some (.inl y), v) := (w_g_m_atom N 60 d (by omega)).1
theorem w_m_term {l : Launch} {K : aw_K} (N d : Nat) (hd : 64 ≤ d) : ∀ (w : aw_W) (y : Int) (v : aw_W), m_term N w = some (y, v) → aw_Met l K MX12_term (d) [.inr (.inr 49)] w (some (.inl y), v) := (w_g_m_atom N 60 d (by omega)).2.1
theorem w_m_sum {l : Launch} {K : aw_K} (N d : Nat) (hd : 64 ≤ d) : ∀ (w : aw_W) (y : Int) (v : aw_W), m_sum N w = some (y, v) → aw_Met l K MX12_sum (d) [.inr (.inr 49)] w (some (.inl y), v) := (w_g_m_atom N 60 d (by omega)).2.2
theorem dX12_isSign_0 : decode cX12_isSign 0 = .ok (.iload_n 0, 1) := by decide +kernel
theorem dX12_isSign_1 : decode cX12_isSign 1 = .ok (.bipush 61, 2) := by decide +kernel
theorem dX12_isSign_3 : decode cX12_isSign 3 = .ok (.if_icmp .eq 15, 3) := by decide +kernel
theorem dX12_isSign_6 : decode cX12_isSign 6 = .ok (.iload_n 0, 1) := by decide +kernel
theorem dX12_isSign_7 : decode cX12_isSign 7 = .ok (.bipush 60, 2) := by decide +kernel
theorem dX12_isSign_9 : decode cX12_isSign 9 = .ok (.if_icmp .eq 9, 3) := by decide +kernel
theorem dX12_isSign_12 : decode cX12_isSign 12 = .ok (.iload_n 0, 1) := by decide +kernel
theorem dX12_isSign_13 : decode cX12_isSign 13 = .ok (.bipush 62, 2) := by decide +kernel
theorem dX12_isSign_15 : decode cX12_isSign 15 = .ok (.if_icmp .ne 7, 3) := by decide +kernel
theorem dX12_isSign_18 : decode cX12_isSign 18 = .ok (.iconst 1, 1) := by decide +kernel
theorem dX12_isSign_19 : decode cX12_isSign 19 = .ok (.goto 4, 3) := by decide +kernel
theorem dX12_isSign_22 : decode cX12_isSign 22 = .ok (.iconst 0, 1) := by decide +kernel
theorem dX12_isSign_23 : decode cX12_isSign 23 = .ok (.ireturn, 1) := by decide +kernel
def m_isSign_23 (N : Nat) (s0 : Int) (w : aw_W) : Option (Int × aw_W) :=
  if s0 = 0 ∨ s0 = 1 then
    some (s0, w)
  else none
theorem w_m_isSign_23 {l : Launch} {K : aw_K} (N d : Nat) : ∀ (s0 : Int) (w : aw_W) (y : Int) (v : aw_W), m_isSign_23 N s0 w = some (y, v) → aw_AW l K MX12_isSign (d) 23 [] [.inl s0] w (some (.inl y), v) := by
  intro s0 w y v h
  unfold m_isSign_23 at h
  obtain ⟨hz, h⟩ := aw_cks h
  cases h
  exact aw_zret (pc := 23) rfl hz dX12_isSign_23
def m_isSign_18 (N : Nat) (w : aw_W) : Option (Int × aw_W) :=
  m_isSign_23 N 1 w
theorem w_m_isSign_18 {l : Launch} {K : aw_K} (N d : Nat) : ∀ (w : aw_W) (y : Int) (v : aw_W), m_isSign_18 N w = some (y, v) → aw_AW l K MX12_isSign (d) 18 [] [] w (some (.inl y), v) := by
  intro w y v h
  unfold m_isSign_18 at h
  refine aw_iconst (pc := 18) dX12_isSign_18 ⟨by decide, by decide⟩ ?_
  refine aw_goto (pc := 19) (tgt := 23) dX12_isSign_19 (by decide) ?_
  exact aw_sel [] rfl (w_m_isSign_23 N d  _ _ _ _ h)
def m_isSign (N : Nat) (x0 : Int) (w : aw_W) : Option (Int × aw_W) :=
  if x0 = 61 then
    m_isSign_18 N w
  else
    if x0 = 60 then
      m_isSign_18 N w
    else
      if x0 = 62 then
        m_isSign_18 N w
      else
        m_isSign_23 N 0 w
theorem w_m_isSign {l : Launch} {K : aw_K} (N d : Nat) (hd : 0 ≤ d) : ∀ (x0 : Int) (w : aw_W) (y : Int) (v : aw_W), m_isSign N x0 w = some (y, v) → aw_Met l K MX12_isSign (d) [.inl x0] w (some (.inl y), v) := by
  intro x0 w y v h
  unfold m_isSign at h
  refine aw_enter rfl (Nat.le_of_ble_eq_true rfl) ?_
  show aw_AW l K MX12_isSign (d) 0 [(0, .inl x0)] [] w (some (.inl y), v)
  refine aw_iload_n (pc := 0) (q := 0) dX12_isSign_0 rfl ?_
  refine aw_bipush (pc := 1) dX12_isSign_1 (by decide) ⟨by decide, by decide⟩ ?_
  refine aw_icmp_eq (pc := 3) (tgt := 18) dX12_isSign_3 (by decide) (fun hc => ?_) (fun hc => ?_)
  · rw [if_pos hc] at h
    exact aw_sel [] rfl (w_m_isSign_18 N d  _ _ _ h)
  · rw [if_neg hc] at h
    refine aw_iload_n (pc := 6) (q := 0) dX12_isSign_6 rfl ?_
    refine aw_bipush (pc := 7) dX12_isSign_7 (by decide) ⟨by decide, by decide⟩ ?_
    refine aw_icmp_eq (pc := 9) (tgt := 18) dX12_isSign_9 (by decide) (fun hc => ?_) (fun hc => ?_)
    · rw [if_pos hc] at h
      exact aw_sel [] rfl (w_m_isSign_18 N d  _ _ _ h)
    · rw [if_neg hc] at h
      refine aw_iload_n (pc := 12) (q := 0) dX12_isSign_12 rfl ?_
      refine aw_bipush (pc := 13) dX12_isSign_13 (by decide) ⟨by decide, by decide⟩ ?_
      refine aw_icmp_ne (pc := 15) (tgt := 22) dX12_isSign_15 (by decide) (fun hc => ?_) (fun hc => ?_)
      · rw [if_neg hc] at h
        refine aw_iconst (pc := 22) dX12_isSign_22 ⟨by decide, by decide⟩ ?_
        exact aw_sel [] rfl (w_m_isSign_23 N d  _ _ _ _ h)
      · rw [if_pos hc] at h
        exact aw_sel [] rfl (w_m_isSign_18 N d  _ _ _ h)
theorem dX12_compares_0 : decode cX12_compares 0 = .ok (.iload_n 1, 1) := by decide +kernel
theorem dX12_compares_1 : decode cX12_compares 1 = .ok (.ifCond .eq 7, 3) := by decide +kernel
theorem dX12_compares_4 : decode cX12_compares 4 = .ok (.iload_n 2, 1) := by decide +kernel
theorem dX12_compares_5 : decode cX12_compares 5 = .ok (.goto 7, 3) := by decide +kernel
theorem dX12_compares_8 : decode cX12_compares 8 = .ok (.aload_n 0, 1) := by decide +kernel
theorem dX12_compares_9 : decode cX12_compares 9 = .ok (.invokevirtual 164, 3) := by decide +kernel
theorem dX12_compares_12 : decode cX12_compares 12 = .ok (.istore_n 3, 1) := by decide +kernel
theorem dX12_compares_13 : decode cX12_compares 13 = .ok (.aload_n 0, 1) := by decide +kernel
theorem dX12_compares_14 : decode cX12_compares 14 = .ok (.getfield 131, 3) := by decide +kernel
theorem dX12_compares_17 : decode cX12_compares 17 = .ok (.iconst (-1), 1) := by decide +kernel
theorem dX12_compares_18 : decode cX12_compares 18 = .ok (.if_icmp .eq 5, 3) := by decide +kernel
theorem dX12_compares_21 : decode cX12_compares 21 = .ok (.iconst 0, 1) := by decide +kernel
theorem dX12_compares_22 : decode cX12_compares 22 = .ok (.ireturn, 1) := by decide +kernel
theorem dX12_compares_23 : decode cX12_compares 23 = .ok (.aload_n 0, 1) := by decide +kernel
theorem dX12_compares_24 : decode cX12_compares 24 = .ok (.invokevirtual 141, 3) := by decide +kernel
theorem dX12_compares_27 : decode cX12_compares 27 = .ok (.istore 4, 2) := by decide +kernel
theorem dX12_compares_29 : decode cX12_compares 29 = .ok (.iload 4, 2) := by decide +kernel
theorem dX12_compares_31 : decode cX12_compares 31 = .ok (.invokestatic 184, 3) := by decide +kernel
theorem dX12_compares_34 : decode cX12_compares 34 = .ok (.ifCond .ne 8, 3) := by decide +kernel
theorem dX12_compares_37 : decode cX12_compares 37 = .ok (.aload_n 0, 1) := by decide +kernel
theorem dX12_compares_38 : decode cX12_compares 38 = .ok (.invokevirtual 137, 3) := by decide +kernel
theorem dX12_compares_41 : decode cX12_compares 41 = .ok (.ireturn, 1) := by decide +kernel
theorem dX12_compares_42 : decode cX12_compares 42 = .ok (.aload_n 0, 1) := by decide +kernel
theorem dX12_compares_43 : decode cX12_compares 43 = .ok (.dup, 1) := by decide +kernel
theorem dX12_compares_44 : decode cX12_compares 44 = .ok (.getfield 122, 3) := by decide +kernel
theorem dX12_compares_47 : decode cX12_compares 47 = .ok (.iconst 1, 1) := by decide +kernel
theorem dX12_compares_48 : decode cX12_compares 48 = .ok (.iadd, 1) := by decide +kernel
theorem dX12_compares_49 : decode cX12_compares 49 = .ok (.putfield 122, 3) := by decide +kernel
theorem dX12_compares_52 : decode cX12_compares 52 = .ok (.aload_n 0, 1) := by decide +kernel
theorem dX12_compares_53 : decode cX12_compares 53 = .ok (.invokevirtual 164, 3) := by decide +kernel
theorem dX12_compares_56 : decode cX12_compares 56 = .ok (.istore 5, 2) := by decide +kernel
theorem dX12_compares_58 : decode cX12_compares 58 = .ok (.iload 4, 2) := by decide +kernel
theorem dX12_compares_60 : decode cX12_compares 60 = .ok (.bipush 61, 2) := by decide +kernel
theorem dX12_compares_62 : decode cX12_compares 62 = .ok (.if_icmp .ne 17, 3) := by decide +kernel
theorem dX12_compares_65 : decode cX12_compares 65 = .ok (.iload_n 3, 1) := by decide +kernel
theorem dX12_compares_66 : decode cX12_compares 66 = .ok (.iload 5, 2) := by decide +kernel
theorem dX12_compares_68 : decode cX12_compares 68 = .ok (.if_icmp .ne 7, 3) := by decide +kernel
theorem dX12_compares_71 : decode cX12_compares 71 = .ok (.iconst 1, 1) := by decide +kernel
theorem dX12_compares_72 : decode cX12_compares 72 = .ok (.goto 39, 3) := by decide +kernel
theorem dX12_compares_75 : decode cX12_compares 75 = .ok (.iconst 0, 1) := by decide +kernel
theorem dX12_compares_76 : decode cX12_compares 76 = .ok (.goto 35, 3) := by decide +kernel
theorem dX12_compares_79 : decode cX12_compares 79 = .ok (.iload 4, 2) := by decide +kernel
theorem dX12_compares_81 : decode cX12_compares 81 = .ok (.bipush 60, 2) := by decide +kernel
theorem dX12_compares_83 : decode cX12_compares 83 = .ok (.if_icmp .ne 17, 3) := by decide +kernel
theorem dX12_compares_86 : decode cX12_compares 86 = .ok (.iload_n 3, 1) := by decide +kernel
theorem dX12_compares_87 : decode cX12_compares 87 = .ok (.iload 5, 2) := by decide +kernel
theorem dX12_compares_89 : decode cX12_compares 89 = .ok (.if_icmp .ge 7, 3) := by decide +kernel
theorem dX12_compares_92 : decode cX12_compares 92 = .ok (.iconst 1, 1) := by decide +kernel
theorem dX12_compares_93 : decode cX12_compares 93 = .ok (.goto 18, 3) := by decide +kernel
theorem dX12_compares_96 : decode cX12_compares 96 = .ok (.iconst 0, 1) := by decide +kernel
theorem dX12_compares_97 : decode cX12_compares 97 = .ok (.goto 14, 3) := by decide +kernel
theorem dX12_compares_100 : decode cX12_compares 100 = .ok (.iload_n 3, 1) := by decide +kernel
theorem dX12_compares_101 : decode cX12_compares 101 = .ok (.iload 5, 2) := by decide +kernel
theorem dX12_compares_103 : decode cX12_compares 103 = .ok (.if_icmp .le 7, 3) := by decide +kernel
theorem dX12_compares_106 : decode cX12_compares 106 = .ok (.iconst 1, 1) := by decide +kernel
theorem dX12_compares_107 : decode cX12_compares 107 = .ok (.goto 4, 3) := by decide +kernel
theorem dX12_compares_110 : decode cX12_compares 110 = .ok (.iconst 0, 1) := by decide +kernel
theorem dX12_compares_111 : decode cX12_compares 111 = .ok (.ireturn, 1) := by decide +kernel
def m_compares_111 (N : Nat) (s0 : Int) (w : aw_W) : Option (Int × aw_W) :=
  if s0 = 0 ∨ s0 = 1 then
    some (s0, w)
  else none
theorem w_m_compares_111 {l : Launch} {K : aw_K} (N d : Nat) (hd : 64 ≤ d) : ∀ (s0 : Int) (w : aw_W) (y : Int) (v : aw_W), m_compares_111 N s0 w = some (y, v) → aw_AW l K MX12_compares (d + 1) 111 [] [.inl s0] w (some (.inl y), v) := by
  intro s0 w y v h
  unfold m_compares_111 at h
  obtain ⟨hz, h⟩ := aw_cks h
  cases h
  exact aw_zret (pc := 111) rfl hz dX12_compares_111
def m_compares_12 (N : Nat) (s0 : Int) (w : aw_W) : Option (Int × aw_W) :=
  if (w 49 11) = (-1) then
    aw_b2 (m_look N w) fun r1 w1 =>
      aw_b2 (m_isSign N r1 w1) fun r2 w2 =>
        if r2 = 0 then
          aw_b2 (m_fails N w2) fun r4 w4 =>
            if r4 = 0 ∨ r4 = 1 then
              some (r4, w4)
            else none
        else
          aw_b2 (m_sum N (aw_up w2 49 10 (aw_w ((w2 49 10) + 1)))) fun r3 w3 =>
            if r1 = 61 then
              if s0 = r3 then
                m_compares_111 N 1 w3
              else
                m_compares_111 N 0 w3
            else
              if r1 = 60 then
                if r3 ≤ s0 then
                  m_compares_111 N 0 w3
                else
                  m_compares_111 N 1 w3
              else
                if s0 ≤ r3 then
                  m_compares_111 N 0 w3
                else
                  m_compares_111 N 1 w3
  else
    some (0, w)
theorem w_m_compares_12 {l : Launch} {K : aw_K} (N d : Nat) (hd : 64 ≤ d) : ∀ (s0 : Int) (w : aw_W) (y : Int) (v : aw_W), m_compares_12 N s0 w = some (y, v) → aw_AW l K MX12_compares (d + 1) 12 [(0, .inr (.inr 49))] [.inl s0] w (some (.inl y), v) := by
  intro s0 w y v h
  unfold m_compares_12 at h
  refine aw_istore_n (pc := 12) (ls' := [(3, .inl s0), (0, .inr (.inr 49))]) dX12_compares_12 (by decide) rfl ?_
  refine aw_aload_n (pc := 13) (q := 1) dX12_compares_13 rfl ?_
  refine aw_getf (pc := 14) (v := .inl (w 49 11)) dX12_compares_14 fl_RX12_131 (by decide) rfl rfl rfl ?_
  refine aw_iconst (pc := 17) dX12_compares_17 ⟨by decide, by decide⟩ ?_
  refine aw_icmp_eq (pc := 18) (tgt := 23) dX12_compares_18 (by decide) (fun hc => ?_) (fun hc => ?_)
  · rw [if_pos hc] at h
    refine aw_aload_n (pc := 23) (q := 1) dX12_compares_23 rfl ?_
    obtain ⟨r1, w1, h1, h⟩ := aw_b2s h
    refine aw_callV (pc := 24) (as := []) (st := []) (st' := [.inl r1]) dX12_compares_24 cv_RX12_141 (by decide) rfl rfl rfl rfl (Nat.le_of_ble_eq_true rfl) (w_m_look N d (by omega) _ _ _ h1) rfl ?_
    refine aw_istore (pc := 27) (ls' := [(4, .inl r1), (3, .inl s0), (0, .inr (.inr 49))]) dX12_compares_27 (by decide) rfl ?_
    refine aw_iload (pc := 29) (q := 0) dX12_compares_29 rfl ?_
    obtain ⟨r2, w2, h2, h⟩ := aw_b2s h
    refine aw_callS (pc := 31) (as := [.inl r1]) (st := []) (st' := [.inl r2]) dX12_compares_31 cs_RX12_184 rfl rfl (Nat.le_of_ble_eq_true rfl) (w_m_isSign N d (by omega) _ _ _ _ h2) rfl ?_
    refine aw_if_ne (pc := 34) (tgt := 42) dX12_compares_34 (by decide) (fun hc => ?_) (fun hc => ?_)
    · rw [if_neg hc] at h
      refine aw_aload_n (pc := 42) (q := 2) dX12_compares_42 rfl ?_
      refine aw_dup (pc := 43) dX12_compares_43 rfl ?_
      refine aw_getf (pc := 44) (v := .inl (w2 49 10)) dX12_compares_44 fl_RX12_122 (by decide) rfl rfl rfl ?_
      refine aw_iconst (pc := 47) dX12_compares_47 ⟨by decide, by decide⟩ ?_
      refine aw_iadd (pc := 48) dX12_compares_48 ?_
      refine aw_puti (pc := 49) dX12_compares_49 fp_RX12_122 (by decide) rfl rfl ?_
      refine aw_aload_n (pc := 52) (q := 2) dX12_compares_52 rfl ?_
      obtain ⟨r3, w3, h3, h⟩ := aw_b2s h
      refine aw_callV (pc := 53) (as := []) (st := []) (st' := [.inl r3]) dX12_compares_53 cv_RX12_164 (by decide) rfl rfl rfl rfl (Nat.le_of_ble_eq_true rfl) (w_m_sum N d (by omega) _ _ _ h3) rfl ?_
      refine aw_istore (pc := 56) (ls' := [(5, .inl r3), (4, .inl r1), (3, .inl s0), (0, .inr (.inr 49))]) dX12_compares_56 (by decide) rfl ?_
      refine aw_iload (pc := 58) (q := 1) dX12_compares_58 rfl ?_
      refine aw_bipush (pc := 60) dX12_compares_60 (by decide) ⟨by decide, by decide⟩ ?_
      refine aw_icmp_ne (pc := 62) (tgt := 79) dX12_compares_62 (by decide) (fun hc => ?_) (fun hc => ?_)
      · rw [if_neg hc] at h
        refine aw_iload (pc := 79) (q := 1) dX12_compares_79 rfl ?_
        refine aw_bipush (pc := 81) dX12_compares_81 (by decide) ⟨by decide, by decide⟩ ?_
        refine aw_icmp_ne (pc := 83) (tgt := 100) dX12_compares_83 (by decide) (fun hc => ?_) (fun hc => ?_)
        · rw [if_neg hc] at h
          refine aw_iload_n (pc := 100) (q := 2) dX12_compares_100 rfl ?_
          refine aw_iload (pc := 101) (q := 0) dX12_compares_101 rfl ?_
          refine aw_icmp_le (pc := 103) (tgt := 110) dX12_compares_103 (by decide) (fun hc => ?_) (fun hc => ?_)
          · rw [if_pos hc] at h
            refine aw_iconst (pc := 110) dX12_compares_110 ⟨by decide, by decide⟩ ?_
            exact aw_sel [] rfl (w_m_compares_111 N d hd  _ _ _ _ h)
          · rw [if_neg hc] at h
            refine aw_iconst (pc := 106) dX12_compares_106 ⟨by decide, by decide⟩ ?_
            refine aw_goto (pc := 107) (tgt := 111) dX12_compares_107 (by decide) ?_
            exact aw_sel [] rfl (w_m_compares_111 N d hd  _ _ _ _ h)
        · rw [if_pos hc] at h
          refine aw_iload_n (pc := 86) (q := 2) dX12_compares_86 rfl ?_
          refine aw_iload (pc := 87) (q := 0) dX12_compares_87 rfl ?_
          refine aw_icmp_ge (pc := 89) (tgt := 96) dX12_compares_89 (by decide) (fun hc => ?_) (fun hc => ?_)
          · rw [if_pos hc] at h
            refine aw_iconst (pc := 96) dX12_compares_96 ⟨by decide, by decide⟩ ?_
            refine aw_goto (pc := 97) (tgt := 111) dX12_compares_97 (by decide) ?_
            exact aw_sel [] rfl (w_m_compares_111 N d hd  _ _ _ _ h)
          · rw [if_neg hc] at h
            refine aw_iconst (pc := 92) dX12_compares_92 ⟨by decide, by decide⟩ ?_
            refine aw_goto (pc := 93) (tgt := 111) dX12_compares_93 (by decide) ?_
            exact aw_sel [] rfl (w_m_compares_111 N d hd  _ _ _ _ h)
      · rw [if_pos hc] at h
        refine aw_iload_n (pc := 65) (q := 2) dX12_compares_65 rfl ?_
        refine aw_iload (pc := 66) (q := 0) dX12_compares_66 rfl ?_
        refine aw_icmp_ne (pc := 68) (tgt := 75) dX12_compares_68 (by decide) (fun hc => ?_) (fun hc => ?_)
        · rw [if_neg hc] at h
          refine aw_iconst (pc := 75) dX12_compares_75 ⟨by decide, by decide⟩ ?_
          refine aw_goto (pc := 76) (tgt := 111) dX12_compares_76 (by decide) ?_
          exact aw_sel [] rfl (w_m_compares_111 N d hd  _ _ _ _ h)
        · rw [if_pos hc] at h
          refine aw_iconst (pc := 71) dX12_compares_71 ⟨by decide, by decide⟩ ?_
          refine aw_goto (pc := 72) (tgt := 111) dX12_compares_72 (by decide) ?_
          exact aw_sel [] rfl (w_m_compares_111 N d hd  _ _ _ _ h)
    · rw [if_pos hc] at h
      refine aw_aload_n (pc := 37) (q := 2) dX12_compares_37 rfl ?_
      obtain ⟨r4, w4, h4, h⟩ := aw_b2s h
      refine aw_callV (pc := 38) (as := []) (st := []) (st' := [.inl r4]) dX12_compares_38 cv_RX12_137 (by decide) rfl rfl rfl rfl (Nat.le_of_ble_eq_true rfl) (w_m_fails N d (by omega) _ _ _ h4) rfl ?_
      obtain ⟨hz, h⟩ := aw_cks h
      cases h
      exact aw_zret (pc := 41) rfl hz dX12_compares_41
  · rw [if_neg hc] at h
    refine aw_iconst (pc := 21) dX12_compares_21 ⟨by decide, by decide⟩ ?_
    cases h
    exact aw_zret (pc := 22) rfl (by decide) dX12_compares_22
def m_compares (N : Nat) (x1 x2 : Int) (w : aw_W) : Option (Int × aw_W) :=
  if x1 = 0 then
    aw_b2 (m_sum N w) fun r1 w1 =>
      m_compares_12 N r1 w1
  else
    m_compares_12 N x2 w
theorem w_m_compares_d {l : Launch} {K : aw_K} (N d : Nat) (hd : 64 ≤ d) : ∀ (x1 x2 : Int) (w : aw_W) (y : Int) (v : aw_W), m_compares N x1 x2 w = some (y, v) → aw_Met l K MX12_compares (d + 1) [.inr (.inr 49), .inl x1, .inl x2] w (some (.inl y), v) := by
  intro x1 x2 w y v h
  unfold m_compares at h
  refine aw_enter rfl (Nat.le_of_ble_eq_true rfl) ?_
  show aw_AW l K MX12_compares (d + 1) 0 [(0, .inr (.inr 49)), (1, .inl x1), (2, .inl x2)] [] w (some (.inl y), v)
  refine aw_iload_n (pc := 0) (q := 1) dX12_compares_0 rfl ?_
  refine aw_if_eq (pc := 1) (tgt := 8) dX12_compares_1 (by decide) (fun hc => ?_) (fun hc => ?_)
  · rw [if_pos hc] at h
    refine aw_aload_n (pc := 8) (q := 0) dX12_compares_8 rfl ?_
    obtain ⟨r1, w1, h1, h⟩ := aw_b2s h
    refine aw_callV (pc := 9) (as := []) (st := []) (st' := [.inl r1]) dX12_compares_9 cv_RX12_164 (by decide) rfl rfl rfl rfl (Nat.le_of_ble_eq_true rfl) (w_m_sum N d (by omega) _ _ _ h1) rfl ?_
    exact aw_sel [0] rfl (w_m_compares_12 N d hd  _ _ _ _ h)
  · rw [if_neg hc] at h
    refine aw_iload_n (pc := 4) (q := 2) dX12_compares_4 rfl ?_
    refine aw_goto (pc := 5) (tgt := 12) dX12_compares_5 (by decide) ?_
    exact aw_sel [0] rfl (w_m_compares_12 N d hd  _ _ _ _ h)
theorem w_m_compares {l : Launch} {K : aw_K} (N d : Nat) (hd : 65 ≤ d) : ∀ (x1 x2 : Int) (w : aw_W) (y : Int) (v : aw_W), m_compares N x1 x2 w = some (y, v) → aw_Met l K MX12_compares (d) [.inr (.inr 49), .inl x1, .inl x2] w (some (.inl y), v) := by
  obtain ⟨e, rfl⟩ : ∃ e, d = e + 1 := ⟨d - 1, by omega⟩
  exact w_m_compares_d N e (by omega)
theorem dX12_unit_0 : decode cX12_unit 0 = .ok (.aload_n 0, 1) := by decide +kernel
theorem dX12_unit_1 : decode cX12_unit 1 = .ok (.invokevirtual 141, 3) := by decide +kernel
theorem dX12_unit_4 : decode cX12_unit 4 = .ok (.istore_n 1, 1) := by decide +kernel
theorem dX12_unit_5 : decode cX12_unit 5 = .ok (.iload_n 1, 1) := by decide +kernel
theorem dX12_unit_6 : decode cX12_unit 6 = .ok (.bipush 33, 2) := by decide +kernel
theorem dX12_unit_8 : decode cX12_unit 8 = .ok (.if_icmp .ne 37, 3) := by decide +kernel
theorem dX12_unit_11 : decode cX12_unit 11 = .ok (.aload_n 0, 1) := by decide +kernel
theorem dX12_unit_12 : decode cX12_unit 12 = .ok (.invokevirtual 161, 3) := by decide +kernel
theorem dX12_unit_15 : decode cX12_unit 15 = .ok (.ifCond .ne 5, 3) := by decide +kernel
theorem dX12_unit_18 : decode cX12_unit 18 = .ok (.iconst 0, 1) := by decide +kernel
theorem dX12_unit_19 : decode cX12_unit 19 = .ok (.ireturn, 1) := by decide +kernel
theorem dX12_unit_20 : decode cX12_unit 20 = .ok (.aload_n 0, 1) := by decide +kernel
theorem dX12_unit_21 : decode cX12_unit 21 = .ok (.invokevirtual 187, 3) := by decide +kernel
theorem dX12_unit_24 : decode cX12_unit 24 = .ok (.istore_n 2, 1) := by decide +kernel
theorem dX12_unit_25 : decode cX12_unit 25 = .ok (.aload_n 0, 1) := by decide +kernel
theorem dX12_unit_26 : decode cX12_unit 26 = .ok (.dup, 1) := by decide +kernel
theorem dX12_unit_27 : decode cX12_unit 27 = .ok (.getfield 134, 3) := by decide +kernel
theorem dX12_unit_30 : decode cX12_unit 30 = .ok (.iconst 1, 1) := by decide +kernel
theorem dX12_unit_31 : decode cX12_unit 31 = .ok (.isub, 1) := by decide +kernel
theorem dX12_unit_32 : decode cX12_unit 32 = .ok (.putfield 134, 3) := by decide +kernel
theorem dX12_unit_35 : decode cX12_unit 35 = .ok (.iload_n 2, 1) := by decide +kernel
theorem dX12_unit_36 : decode cX12_unit 36 = .ok (.ifCond .ne 7, 3) := by decide +kernel
theorem dX12_unit_39 : decode cX12_unit 39 = .ok (.iconst 1, 1) := by decide +kernel
theorem dX12_unit_40 : decode cX12_unit 40 = .ok (.goto 4, 3) := by decide +kernel
theorem dX12_unit_43 : decode cX12_unit 43 = .ok (.iconst 0, 1) := by decide +kernel
theorem dX12_unit_44 : decode cX12_unit 44 = .ok (.ireturn, 1) := by decide +kernel
theorem dX12_unit_45 : decode cX12_unit 45 = .ok (.iload_n 1, 1) := by decide +kernel
theorem dX12_unit_46 : decode cX12_unit 46 = .ok (.bipush 40, 2) := by decide +kernel
theorem dX12_unit_48 : decode cX12_unit 48 = .ok (.if_icmp .ne 42, 3) := by decide +kernel
theorem dX12_unit_51 : decode cX12_unit 51 = .ok (.aload_n 0, 1) := by decide +kernel
theorem dX12_unit_52 : decode cX12_unit 52 = .ok (.invokevirtual 161, 3) := by decide +kernel
theorem dX12_unit_55 : decode cX12_unit 55 = .ok (.ifCond .ne 5, 3) := by decide +kernel
theorem dX12_unit_58 : decode cX12_unit 58 = .ok (.iconst 0, 1) := by decide +kernel
theorem dX12_unit_59 : decode cX12_unit 59 = .ok (.ireturn, 1) := by decide +kernel
theorem dX12_unit_60 : decode cX12_unit 60 = .ok (.aload_n 0, 1) := by decide +kernel
theorem dX12_unit_61 : decode cX12_unit 61 = .ok (.iconst 0, 1) := by decide +kernel
theorem dX12_unit_62 : decode cX12_unit 62 = .ok (.iconst 0, 1) := by decide +kernel
theorem dX12_unit_63 : decode cX12_unit 63 = .ok (.invokevirtual 190, 3) := by decide +kernel
theorem dX12_unit_66 : decode cX12_unit 66 = .ok (.istore_n 2, 1) := by decide +kernel
theorem dX12_unit_67 : decode cX12_unit 67 = .ok (.aload_n 0, 1) := by decide +kernel
theorem dX12_unit_68 : decode cX12_unit 68 = .ok (.bipush 41, 2) := by decide +kernel
theorem dX12_unit_70 : decode cX12_unit 70 = .ok (.invokevirtual 167, 3) := by decide +kernel
theorem dX12_unit_73 : decode cX12_unit 73 = .ok (.ifCond .ne 5, 3) := by decide +kernel
theorem dX12_unit_76 : decode cX12_unit 76 = .ok (.iconst 0, 1) := by decide +kernel
theorem dX12_unit_77 : decode cX12_unit 77 = .ok (.ireturn, 1) := by decide +kernel
theorem dX12_unit_78 : decode cX12_unit 78 = .ok (.aload_n 0, 1) := by decide +kernel
theorem dX12_unit_79 : decode cX12_unit 79 = .ok (.dup, 1) := by decide +kernel
theorem dX12_unit_80 : decode cX12_unit 80 = .ok (.getfield 134, 3) := by decide +kernel
theorem dX12_unit_83 : decode cX12_unit 83 = .ok (.iconst 1, 1) := by decide +kernel
theorem dX12_unit_84 : decode cX12_unit 84 = .ok (.isub, 1) := by decide +kernel
theorem dX12_unit_85 : decode cX12_unit 85 = .ok (.putfield 134, 3) := by decide +kernel
theorem dX12_unit_88 : decode cX12_unit 88 = .ok (.iload_n 2, 1) := by decide +kernel
theorem dX12_unit_89 : decode cX12_unit 89 = .ok (.ireturn, 1) := by decide +kernel
theorem dX12_unit_90 : decode cX12_unit 90 = .ok (.aload_n 0, 1) := by decide +kernel
theorem dX12_unit_91 : decode cX12_unit 91 = .ok (.iconst 0, 1) := by decide +kernel
theorem dX12_unit_92 : decode cX12_unit 92 = .ok (.iconst 0, 1) := by decide +kernel
theorem dX12_unit_93 : decode cX12_unit 93 = .ok (.invokevirtual 194, 3) := by decide +kernel
theorem dX12_unit_96 : decode cX12_unit 96 = .ok (.ireturn, 1) := by decide +kernel
theorem dX12_part_0 : decode cX12_part 0 = .ok (.iload_n 1, 1) := by decide +kernel
theorem dX12_part_1 : decode cX12_part 1 = .ok (.ifCond .eq 12, 3) := by decide +kernel
theorem dX12_part_4 : decode cX12_part 4 = .ok (.aload_n 0, 1) := by decide +kernel
theorem dX12_part_5 : decode cX12_part 5 = .ok (.iconst 1, 1) := by decide +kernel
theorem dX12_part_6 : decode cX12_part 6 = .ok (.iload_n 2, 1) := by decide +kernel
theorem dX12_part_7 : decode cX12_part 7 = .ok (.invokevirtual 194, 3) := by decide +kernel
theorem dX12_part_10 : decode cX12_part 10 = .ok (.goto 7, 3) := by decide +kernel
theorem dX12_part_13 : decode cX12_part 13 = .ok (.aload_n 0, 1) := by decide +kernel
theorem dX12_part_14 : decode cX12_part 14 = .ok (.invokevirtual 187, 3) := by decide +kernel
theorem dX12_part_17 : decode cX12_part 17 = .ok (.istore_n 3, 1) := by decide +kernel
theorem dX12_part_18 : decode cX12_part 18 = .ok (.aload_n 0, 1) := by decide +kernel
theorem dX12_part_19 : decode cX12_part 19 = .ok (.getfield 131, 3) := by decide +kernel
theorem dX12_part_22 : decode cX12_part 22 = .ok (.iconst (-1), 1) := by decide +kernel
theorem dX12_part_23 : decode cX12_part 23 = .ok (.if_icmp .ne 46, 3) := by decide +kernel
theorem dX12_part_26 : decode cX12_part 26 = .ok (.aload_n 0, 1) := by decide +kernel
theorem dX12_part_27 : decode cX12_part 27 = .ok (.invokevirtual 141, 3) := by decide +kernel
theorem dX12_part_30 : decode cX12_part 30 = .ok (.bipush 38, 2) := by decide +kernel
theorem dX12_part_32 : decode cX12_part 32 = .ok (.if_icmp .ne 37, 3) := by decide +kernel
theorem dX12_part_35 : decode cX12_part 35 = .ok (.aload_n 0, 1) := by decide +kernel
theorem dX12_part_36 : decode cX12_part 36 = .ok (.dup, 1) := by decide +kernel
theorem dX12_part_37 : decode cX12_part 37 = .ok (.getfield 122, 3) := by decide +kernel
theorem dX12_part_40 : decode cX12_part 40 = .ok (.iconst 1, 1) := by decide +kernel
theorem dX12_part_41 : decode cX12_part 41 = .ok (.iadd, 1) := by decide +kernel
theorem dX12_part_42 : decode cX12_part 42 = .ok (.putfield 122, 3) := by decide +kernel
theorem dX12_part_45 : decode cX12_part 45 = .ok (.aload_n 0, 1) := by decide +kernel
theorem dX12_part_46 : decode cX12_part 46 = .ok (.invokevirtual 187, 3) := by decide +kernel
theorem dX12_part_49 : decode cX12_part 49 = .ok (.istore 4, 2) := by decide +kernel
theorem dX12_part_51 : decode cX12_part 51 = .ok (.iload_n 3, 1) := by decide +kernel
theorem dX12_part_52 : decode cX12_part 52 = .ok (.ifCond .eq 12, 3) := by decide +kernel
theorem dX12_part_55 : decode cX12_part 55 = .ok (.iload 4, 2) := by decide +kernel
theorem dX12_part_57 : decode cX12_part 57 = .ok (.ifCond .eq 7, 3) := by decide +kernel
theorem dX12_part_60 : decode cX12_part 60 = .ok (.iconst 1, 1) := by decide +kernel
theorem dX12_part_61 : decode cX12_part 61 = .ok (.goto 4, 3) := by decide +kernel
theorem dX12_part_64 : decode cX12_part 64 = .ok (.iconst 0, 1) := by decide +kernel
theorem dX12_part_65 : decode cX12_part 65 = .ok (.istore_n 3, 1) := by decide +kernel
theorem dX12_part_66 : decode cX12_part 66 = .ok (.goto (-48), 3) := by decide +kernel
theorem dX12_part_69 : decode cX12_part 69 = .ok (.iload_n 3, 1) := by decide +kernel
theorem dX12_part_70 : decode cX12_part 70 = .ok (.ireturn, 1) := by decide +kernel
theorem dX12_condition_0 : decode cX12_condition 0 = .ok (.aload_n 0, 1) := by decide +kernel
theorem dX12_condition_1 : decode cX12_condition 1 = .ok (.iload_n 1, 1) := by decide +kernel
theorem dX12_condition_2 : decode cX12_condition 2 = .ok (.iload_n 2, 1) := by decide +kernel
theorem dX12_condition_3 : decode cX12_condition 3 = .ok (.invokevirtual 197, 3) := by decide +kernel
theorem dX12_condition_6 : decode cX12_condition 6 = .ok (.istore_n 3, 1) := by decide +kernel
theorem dX12_condition_7 : decode cX12_condition 7 = .ok (.aload_n 0, 1) := by decide +kernel
theorem dX12_condition_8 : decode cX12_condition 8 = .ok (.getfield 131, 3) := by decide +kernel
theorem dX12_condition_11 : decode cX12_condition 11 = .ok (.iconst (-1), 1) := by decide +kernel
theorem dX12_condition_12 : decode cX12_condition 12 = .ok (.if_icmp .ne 48, 3) := by decide +kernel
theorem dX12_condition_15 : decode cX12_condition 15 = .ok (.aload_n 0, 1) := by decide +kernel
theorem dX12_condition_16 : decode cX12_condition 16 = .ok (.invokevirtual 141, 3) := by decide +kernel
theorem dX12_condition_19 : decode cX12_condition 19 = .ok (.bipush 124, 2) := by decide +kernel
theorem dX12_condition_21 : decode cX12_condition 21 = .ok (.if_icmp .ne 39, 3) := by decide +kernel
theorem dX12_condition_24 : decode cX12_condition 24 = .ok (.aload_n 0, 1) := by decide +kernel
theorem dX12_condition_25 : decode cX12_condition 25 = .ok (.dup, 1) := by decide +kernel
theorem dX12_condition_26 : decode cX12_condition 26 = .ok (.getfield 122, 3) := by decide +kernel
theorem dX12_condition_29 : decode cX12_condition 29 = .ok (.iconst 1, 1) := by decide +kernel
theorem dX12_condition_30 : decode cX12_condition 30 = .ok (.iadd, 1) := by decide +kernel
theorem dX12_condition_31 : decode cX12_condition 31 = .ok (.putfield 122, 3) := by decide +kernel
theorem dX12_condition_34 : decode cX12_condition 34 = .ok (.aload_n 0, 1) := by decide +kernel
theorem dX12_condition_35 : decode cX12_condition 35 = .ok (.iconst 0, 1) := by decide +kernel
theorem dX12_condition_36 : decode cX12_condition 36 = .ok (.iconst 0, 1) := by decide +kernel
theorem dX12_condition_37 : decode cX12_condition 37 = .ok (.invokevirtual 197, 3) := by decide +kernel
theorem dX12_condition_40 : decode cX12_condition 40 = .ok (.istore 4, 2) := by decide +kernel
theorem dX12_condition_42 : decode cX12_condition 42 = .ok (.iload_n 3, 1) := by decide +kernel
theorem dX12_condition_43 : decode cX12_condition 43 = .ok (.ifCond .ne 8, 3) := by decide +kernel
theorem dX12_condition_46 : decode cX12_condition 46 = .ok (.iload 4, 2) := by decide +kernel
theorem dX12_condition_48 : decode cX12_condition 48 = .ok (.ifCond .eq 7, 3) := by decide +kernel
theorem dX12_condition_51 : decode cX12_condition 51 = .ok (.iconst 1, 1) := by decide +kernel
theorem dX12_condition_52 : decode cX12_condition 52 = .ok (.goto 4, 3) := by decide +kernel
theorem dX12_condition_55 : decode cX12_condition 55 = .ok (.iconst 0, 1) := by decide +kernel
theorem dX12_condition_56 : decode cX12_condition 56 = .ok (.istore_n 3, 1) := by decide +kernel
theorem dX12_condition_57 : decode cX12_condition 57 = .ok (.goto (-50), 3) := by decide +kernel
theorem dX12_condition_60 : decode cX12_condition 60 = .ok (.iload_n 3, 1) := by decide +kernel
theorem dX12_condition_61 : decode cX12_condition 61 = .ok (.ireturn, 1) := by decide +kernel
def m_unit_44 (c_m_unit : aw_W → Option (Int × aw_W)) (c_m_part : Int → Int → aw_W → Option (Int × aw_W)) (c_m_condition : Int → Int → aw_W → Option (Int × aw_W)) (N : Nat) (s0 : Int) (w : aw_W) : Option (Int × aw_W) :=
  if s0 = 0 ∨ s0 = 1 then
    some (s0, w)
  else none
theorem w_m_unit_44 {l : Launch} {K : aw_K} (N d : Nat) (hd : 65 ≤ d) (c_m_unit : aw_W → Option (Int × aw_W)) (c_m_part : Int → Int → aw_W → Option (Int × aw_W)) (c_m_condition : Int → Int → aw_W → Option (Int × aw_W)) (hc_m_unit : ∀ (w : aw_W) (y : Int) (v : aw_W), c_m_unit w = some (y, v) → aw_Met l K MX12_unit (d) [.inr (.inr 49)] w (some (.inl y), v)) (hc_m_part : ∀ (x1 x2 : Int) (w : aw_W) (y : Int) (v : aw_W), c_m_part x1 x2 w = some (y, v) → aw_Met l K MX12_part (d) [.inr (.inr 49), .inl x1, .inl x2] w (some (.inl y), v)) (hc_m_condition : ∀ (x1 x2 : Int) (w : aw_W) (y : Int) (v : aw_W), c_m_condition x1 x2 w = some (y, v) → aw_Met l K MX12_condition (d) [.inr (.inr 49), .inl x1, .inl x2] w (some (.inl y), v)) : ∀ (s0 : Int) (w : aw_W) (y : Int) (v : aw_W), m_unit_44 c_m_unit c_m_part c_m_condition N s0 w = some (y, v) → aw_AW l K MX12_unit (d + 1) 44 [] [.inl s0] w (some (.inl y), v) := by
  intro s0 w y v h
  unfold m_unit_44 at h
  obtain ⟨hz, h⟩ := aw_cks h
  cases h
  exact aw_zret (pc := 44) rfl hz dX12_unit_44
def m_unit_b (c_m_unit : aw_W → Option (Int × aw_W)) (c_m_part : Int → Int → aw_W → Option (Int × aw_W)) (c_m_condition : Int → Int → aw_W → Option (Int × aw_W)) (N : Nat) (w : aw_W) : Option (Int × aw_W) :=
  aw_b2 (m_look N w) fun r1 w1 =>
    if r1 = 33 then
      aw_b2 (m_goesIn N w1) fun r6 w6 =>
        if r6 = 0 then
          some (0, w6)
        else
          aw_b2 (c_m_unit w6) fun r7 w7 =>
            if r7 = 0 then
              m_unit_44 c_m_unit c_m_part c_m_condition N 1 (aw_up w7 49 12 (aw_w ((w7 49 12) - 1)))
            else
              m_unit_44 c_m_unit c_m_part c_m_condition N 0 (aw_up w7 49 12 (aw_w ((w7 49 12) - 1)))
    else
      if r1 = 40 then
        aw_b2 (m_goesIn N w1) fun r3 w3 =>
          if r3 = 0 then
            some (0, w3)
          else
            aw_b2 (c_m_condition 0 0 w3) fun r4 w4 =>
              aw_b2 (m_takes N 41 w4) fun r5 w5 =>
                if r5 = 0 then
                  some (0, w5)
                else
                  if r4 = 0 ∨ r4 = 1 then
                    some (r4, (aw_up w5 49 12 (aw_w ((w5 49 12) - 1))))
                  else none
      else
        aw_b2 (m_compares N 0 0 w1) fun r2 w2 =>
          if r2 = 0 ∨ r2 = 1 then
            some (r2, w2)
          else none
theorem w_m_unit_b {l : Launch} {K : aw_K} (N d : Nat) (hd : 65 ≤ d) (c_m_unit : aw_W → Option (Int × aw_W)) (c_m_part : Int → Int → aw_W → Option (Int × aw_W)) (c_m_condition : Int → Int → aw_W → Option (Int × aw_W)) (hc_m_unit : ∀ (w : aw_W) (y : Int) (v : aw_W), c_m_unit w = some (y, v) → aw_Met l K MX12_unit (d) [.inr (.inr 49)] w (some (.inl y), v)) (hc_m_part : ∀ (x1 x2 : Int) (w : aw_W) (y : Int) (v : aw_W), c_m_part x1 x2 w = some (y, v) → aw_Met l K MX12_part (d) [.inr (.inr 49), .inl x1, .inl x2] w (some (.inl y), v)) (hc_m_condition : ∀ (x1 x2 : Int) (w : aw_W) (y : Int) (v : aw_W), c_m_condition x1 x2 w = some (y, v) → aw_Met l K MX12_condition (d) [.inr (.inr 49), .inl x1, .inl x2] w (some (.inl y), v)) : ∀ (w : aw_W) (y : Int) (v : aw_W), m_unit_b c_m_unit c_m_part c_m_condition N w = some (y, v) → aw_Met l K MX12_unit (d + 1) [.inr (.inr 49)] w (some (.inl y), v) := by
  intro w y v h
  unfold m_unit_b at h
  refine aw_enter rfl (Nat.le_of_ble_eq_true rfl) ?_
  show aw_AW l K MX12_unit (d + 1) 0 [(0, .inr (.inr 49))] [] w (some (.inl y), v)
  refine aw_aload_n (pc := 0) (q := 0) dX12_unit_0 rfl ?_
  obtain ⟨r1, w1, h1, h⟩ := aw_b2s h
  refine aw_callV (pc := 1) (as := []) (st := []) (st' := [.inl r1]) dX12_unit_1 cv_RX12_141 (by decide) rfl rfl rfl rfl (Nat.le_of_ble_eq_true rfl) (w_m_look N d (by omega) _ _ _ h1) rfl ?_
  refine aw_istore_n (pc := 4) (ls' := [(1, .inl r1), (0, .inr (.inr 49))]) dX12_unit_4 (by decide) rfl ?_
  refine aw_iload_n (pc := 5) (q := 0) dX12_unit_5 rfl ?_
  refine aw_bipush (pc := 6) dX12_unit_6 (by decide) ⟨by decide, by decide⟩ ?_
  refine aw_icmp_ne (pc := 8) (tgt := 45) dX12_unit_8 (by decide) (fun hc => ?_) (fun hc => ?_)
  · rw [if_neg hc] at h
    refine aw_iload_n (pc := 45) (q := 0) dX12_unit_45 rfl ?_
    refine aw_bipush (pc := 46) dX12_unit_46 (by decide) ⟨by decide, by decide⟩ ?_
    refine aw_icmp_ne (pc := 48) (tgt := 90) dX12_unit_48 (by decide) (fun hc => ?_) (fun hc => ?_)
    · rw [if_neg hc] at h
      refine aw_aload_n (pc := 90) (q := 1) dX12_unit_90 rfl ?_
      refine aw_iconst (pc := 91) dX12_unit_91 ⟨by decide, by decide⟩ ?_
      refine aw_iconst (pc := 92) dX12_unit_92 ⟨by decide, by decide⟩ ?_
      obtain ⟨r2, w2, h2, h⟩ := aw_b2s h
      refine aw_callV (pc := 93) (as := [.inl 0, .inl 0]) (st := []) (st' := [.inl r2]) dX12_unit_93 cv_RX12_194 (by decide) rfl rfl rfl rfl (Nat.le_of_ble_eq_true rfl) (w_m_compares N d (by omega) _ _ _ _ _ h2) rfl ?_
      obtain ⟨hz, h⟩ := aw_cks h
      cases h
      exact aw_zret (pc := 96) rfl hz dX12_unit_96
    · rw [if_pos hc] at h
      refine aw_aload_n (pc := 51) (q := 1) dX12_unit_51 rfl ?_
      obtain ⟨r3, w3, h3, h⟩ := aw_b2s h
      refine aw_callV (pc := 52) (as := []) (st := []) (st' := [.inl r3]) dX12_unit_52 cv_RX12_161 (by decide) rfl rfl rfl rfl (Nat.le_of_ble_eq_true rfl) (w_m_goesIn N d (by omega) _ _ _ h3) rfl ?_
      refine aw_if_ne (pc := 55) (tgt := 60) dX12_unit_55 (by decide) (fun hc => ?_) (fun hc => ?_)
      · rw [if_neg hc] at h
        refine aw_aload_n (pc := 60) (q := 1) dX12_unit_60 rfl ?_
        refine aw_iconst (pc := 61) dX12_unit_61 ⟨by decide, by decide⟩ ?_
        refine aw_iconst (pc := 62) dX12_unit_62 ⟨by decide, by decide⟩ ?_
        obtain ⟨r4, w4, h4, h⟩ := aw_b2s h
        refine aw_callV (pc := 63) (as := [.inl 0, .inl 0]) (st := []) (st' := [.inl r4]) dX12_unit_63 cv_RX12_190 (by decide) rfl rfl rfl rfl (Nat.le_of_ble_eq_true rfl) (hc_m_condition _ _ _ _ _ h4) rfl ?_
        refine aw_istore_n (pc := 66) (ls' := [(2, .inl r4), (1, .inl r1), (0, .inr (.inr 49))]) dX12_unit_66 (by decide) rfl ?_
        refine aw_aload_n (pc := 67) (q := 2) dX12_unit_67 rfl ?_
        refine aw_bipush (pc := 68) dX12_unit_68 (by decide) ⟨by decide, by decide⟩ ?_
        obtain ⟨r5, w5, h5, h⟩ := aw_b2s h
        refine aw_callV (pc := 70) (as := [.inl 41]) (st := []) (st' := [.inl r5]) dX12_unit_70 cv_RX12_167 (by decide) rfl rfl rfl rfl (Nat.le_of_ble_eq_true rfl) (w_m_takes N d (by omega) _ _ _ _ h5) rfl ?_
        refine aw_if_ne (pc := 73) (tgt := 78) dX12_unit_73 (by decide) (fun hc => ?_) (fun hc => ?_)
        · rw [if_neg hc] at h
          refine aw_aload_n (pc := 78) (q := 2) dX12_unit_78 rfl ?_
          refine aw_dup (pc := 79) dX12_unit_79 rfl ?_
          refine aw_getf (pc := 80) (v := .inl (w5 49 12)) dX12_unit_80 fl_RX12_134 (by decide) rfl rfl rfl ?_
          refine aw_iconst (pc := 83) dX12_unit_83 ⟨by decide, by decide⟩ ?_
          refine aw_isub (pc := 84) dX12_unit_84 ?_
          refine aw_puti (pc := 85) dX12_unit_85 fp_RX12_134 (by decide) rfl rfl ?_
          refine aw_iload_n (pc := 88) (q := 0) dX12_unit_88 rfl ?_
          obtain ⟨hz, h⟩ := aw_cks h
          cases h
          exact aw_zret (pc := 89) rfl hz dX12_unit_89
        · rw [if_pos hc] at h
          refine aw_iconst (pc := 76) dX12_unit_76 ⟨by decide, by decide⟩ ?_
          cases h
          exact aw_zret (pc := 77) rfl (by decide) dX12_unit_77
      · rw [if_pos hc] at h
        refine aw_iconst (pc := 58) dX12_unit_58 ⟨by decide, by decide⟩ ?_
        cases h
        exact aw_zret (pc := 59) rfl (by decide) dX12_unit_59
  · rw [if_pos hc] at h
    refine aw_aload_n (pc := 11) (q := 1) dX12_unit_11 rfl ?_
    obtain ⟨r6, w6, h6, h⟩ := aw_b2s h
    refine aw_callV (pc := 12) (as := []) (st := []) (st' := [.inl r6]) dX12_unit_12 cv_RX12_161 (by decide) rfl rfl rfl rfl (Nat.le_of_ble_eq_true rfl) (w_m_goesIn N d (by omega) _ _ _ h6) rfl ?_
    refine aw_if_ne (pc := 15) (tgt := 20) dX12_unit_15 (by decide) (fun hc => ?_) (fun hc => ?_)
    · rw [if_neg hc] at h
      refine aw_aload_n (pc := 20) (q := 1) dX12_unit_20 rfl ?_
      obtain ⟨r7, w7, h7, h⟩ := aw_b2s h
      refine aw_callV (pc := 21) (as := []) (st := []) (st' := [.inl r7]) dX12_unit_21 cv_RX12_187 (by decide) rfl rfl rfl rfl (Nat.le_of_ble_eq_true rfl) (hc_m_unit _ _ _ h7) rfl ?_
      refine aw_istore_n (pc := 24) (ls' := [(2, .inl r7), (1, .inl r1), (0, .inr (.inr 49))]) dX12_unit_24 (by decide) rfl ?_
      refine aw_aload_n (pc := 25) (q := 2) dX12_unit_25 rfl ?_
      refine aw_dup (pc := 26) dX12_unit_26 rfl ?_
      refine aw_getf (pc := 27) (v := .inl (w7 49 12)) dX12_unit_27 fl_RX12_134 (by decide) rfl rfl rfl ?_
      refine aw_iconst (pc := 30) dX12_unit_30 ⟨by decide, by decide⟩ ?_
      refine aw_isub (pc := 31) dX12_unit_31 ?_
      refine aw_puti (pc := 32) dX12_unit_32 fp_RX12_134 (by decide) rfl rfl ?_
      refine aw_iload_n (pc := 35) (q := 0) dX12_unit_35 rfl ?_
      refine aw_if_ne (pc := 36) (tgt := 43) dX12_unit_36 (by decide) (fun hc => ?_) (fun hc => ?_)
      · rw [if_neg hc] at h
        refine aw_iconst (pc := 43) dX12_unit_43 ⟨by decide, by decide⟩ ?_
        exact aw_sel [] rfl (w_m_unit_44 N d hd c_m_unit c_m_part c_m_condition hc_m_unit hc_m_part hc_m_condition  _ _ _ _ h)
      · rw [if_pos hc] at h
        refine aw_iconst (pc := 39) dX12_unit_39 ⟨by decide, by decide⟩ ?_
        refine aw_goto (pc := 40) (tgt := 44) dX12_unit_40 (by decide) ?_
        exact aw_sel [] rfl (w_m_unit_44 N d hd c_m_unit c_m_part c_m_condition hc_m_unit hc_m_part hc_m_condition  _ _ _ _ h)
    · rw [if_pos hc] at h
      refine aw_iconst (pc := 18) dX12_unit_18 ⟨by decide, by decide⟩ ?_
      cases h
      exact aw_zret (pc := 19) rfl (by decide) dX12_unit_19
def m_part_69 (c_m_unit : aw_W → Option (Int × aw_W)) (c_m_part : Int → Int → aw_W → Option (Int × aw_W)) (c_m_condition : Int → Int → aw_W → Option (Int × aw_W)) (N : Nat) (x3 : Int) (w : aw_W) : Option (Int × aw_W) :=
  if x3 = 0 ∨ x3 = 1 then
    some (x3, w)
  else none
theorem w_m_part_69 {l : Launch} {K : aw_K} (N d : Nat) (hd : 65 ≤ d) (c_m_unit : aw_W → Option (Int × aw_W)) (c_m_part : Int → Int → aw_W → Option (Int × aw_W)) (c_m_condition : Int → Int → aw_W → Option (Int × aw_W)) (hc_m_unit : ∀ (w : aw_W) (y : Int) (v : aw_W), c_m_unit w = some (y, v) → aw_Met l K MX12_unit (d) [.inr (.inr 49)] w (some (.inl y), v)) (hc_m_part : ∀ (x1 x2 : Int) (w : aw_W) (y : Int) (v : aw_W), c_m_part x1 x2 w = some (y, v) → aw_Met l K MX12_part (d) [.inr (.inr 49), .inl x1, .inl x2] w (some (.inl y), v)) (hc_m_condition : ∀ (x1 x2 : Int) (w : aw_W) (y : Int) (v : aw_W), c_m_condition x1 x2 w = some (y, v) → aw_Met l K MX12_condition (d) [.inr (.inr 49), .inl x1, .inl x2] w (some (.inl y), v)) : ∀ (x3 : Int) (w : aw_W) (y : Int) (v : aw_W), m_part_69 c_m_unit c_m_part c_m_condition N x3 w = some (y, v) → aw_AW l K MX12_part (d + 1) 69 [(3, .inl x3)] [] w (some (.inl y), v) := by
  intro x3 w y v h
  unfold m_part_69 at h
  refine aw_iload_n (pc := 69) (q := 0) dX12_part_69 rfl ?_
  obtain ⟨hz, h⟩ := aw_cks h
  cases h
  exact aw_zret (pc := 70) rfl hz dX12_part_70
def m_part_65 (c_m_unit : aw_W → Option (Int × aw_W)) (c_m_part : Int → Int → aw_W → Option (Int × aw_W)) (c_m_condition : Int → Int → aw_W → Option (Int × aw_W)) (N : Nat) (k18 : Int → aw_W → Option (Int × aw_W)) (s0 : Int) (w : aw_W) : Option (Int × aw_W) :=
  k18 s0 w
theorem w_m_part_65 {l : Launch} {K : aw_K} (N d : Nat) (hd : 65 ≤ d) (c_m_unit : aw_W → Option (Int × aw_W)) (c_m_part : Int → Int → aw_W → Option (Int × aw_W)) (c_m_condition : Int → Int → aw_W → Option (Int × aw_W)) (hc_m_unit : ∀ (w : aw_W) (y : Int) (v : aw_W), c_m_unit w = some (y, v) → aw_Met l K MX12_unit (d) [.inr (.inr 49)] w (some (.inl y), v)) (hc_m_part : ∀ (x1 x2 : Int) (w : aw_W) (y : Int) (v : aw_W), c_m_part x1 x2 w = some (y, v) → aw_Met l K MX12_part (d) [.inr (.inr 49), .inl x1, .inl x2] w (some (.inl y), v)) (hc_m_condition : ∀ (x1 x2 : Int) (w : aw_W) (y : Int) (v : aw_W), c_m_condition x1 x2 w = some (y, v) → aw_Met l K MX12_condition (d) [.inr (.inr 49), .inl x1, .inl x2] w (some (.inl y), v)) (k18 : Int → aw_W → Option (Int × aw_W)) (hk18 : ∀ (x3 : Int) (w : aw_W) (y : Int) (v : aw_W), k18 x3 w = some (y, v) → aw_AW l K MX12_part (d + 1) 18 [(0, .inr (.inr 49)), (3, .inl x3)] [] w (some (.inl y), v)) : ∀ (s0 : Int) (w : aw_W) (y : Int) (v : aw_W), m_part_65 c_m_unit c_m_part c_m_condition N k18 s0 w = some (y, v) → aw_AW l K MX12_part (d + 1) 65 [(0, .inr (.inr 49))] [.inl s0] w (some (.inl y), v) := by
  intro s0 w y v h
  unfold m_part_65 at h
  refine aw_istore_n (pc := 65) (ls' := [(3, .inl s0), (0, .inr (.inr 49))]) dX12_part_65 (by decide) rfl ?_
  refine aw_goto (pc := 66) (tgt := 18) dX12_part_66 (by decide) ?_
  exact aw_sel [1, 0] rfl (hk18 _ _ _ _ h)
def m_part_64 (c_m_unit : aw_W → Option (Int × aw_W)) (c_m_part : Int → Int → aw_W → Option (Int × aw_W)) (c_m_condition : Int → Int → aw_W → Option (Int × aw_W)) (N : Nat) (k18 : Int → aw_W → Option (Int × aw_W)) (w : aw_W) : Option (Int × aw_W) :=
  m_part_65 c_m_unit c_m_part c_m_condition N k18 0 w
theorem w_m_part_64 {l : Launch} {K : aw_K} (N d : Nat) (hd : 65 ≤ d) (c_m_unit : aw_W → Option (Int × aw_W)) (c_m_part : Int → Int → aw_W → Option (Int × aw_W)) (c_m_condition : Int → Int → aw_W → Option (Int × aw_W)) (hc_m_unit : ∀ (w : aw_W) (y : Int) (v : aw_W), c_m_unit w = some (y, v) → aw_Met l K MX12_unit (d) [.inr (.inr 49)] w (some (.inl y), v)) (hc_m_part : ∀ (x1 x2 : Int) (w : aw_W) (y : Int) (v : aw_W), c_m_part x1 x2 w = some (y, v) → aw_Met l K MX12_part (d) [.inr (.inr 49), .inl x1, .inl x2] w (some (.inl y), v)) (hc_m_condition : ∀ (x1 x2 : Int) (w : aw_W) (y : Int) (v : aw_W), c_m_condition x1 x2 w = some (y, v) → aw_Met l K MX12_condition (d) [.inr (.inr 49), .inl x1, .inl x2] w (some (.inl y), v)) (k18 : Int → aw_W → Option (Int × aw_W)) (hk18 : ∀ (x3 : Int) (w : aw_W) (y : Int) (v : aw_W), k18 x3 w = some (y, v) → aw_AW l K MX12_part (d + 1) 18 [(0, .inr (.inr 49)), (3, .inl x3)] [] w (some (.inl y), v)) : ∀ (w : aw_W) (y : Int) (v : aw_W), m_part_64 c_m_unit c_m_part c_m_condition N k18 w = some (y, v) → aw_AW l K MX12_part (d + 1) 64 [(0, .inr (.inr 49))] [] w (some (.inl y), v) := by
  intro w y v h
  unfold m_part_64 at h
  refine aw_iconst (pc := 64) dX12_part_64 ⟨by decide, by decide⟩ ?_
  exact aw_sel [0] rfl (w_m_part_65 N d hd c_m_unit c_m_part c_m_condition hc_m_unit hc_m_part hc_m_condition  _ hk18 _ _ _ _ h)
def m_part_18 (c_m_unit : aw_W → Option (Int × aw_W)) (c_m_part : Int → Int → aw_W → Option (Int × aw_W)) (c_m_condition : Int → Int → aw_W → Option (Int × aw_W)) (N : Nat) : Nat → Int → aw_W → Option (Int × aw_W)
  | 0, _, _ => none
  | n + 1, x3, w =>
    if (w 49 11) = (-1) then
      aw_b2 (m_look N w) fun r1 w1 =>
        if r1 = 38 then
          aw_b2 (c_m_unit (aw_up w1 49 10 (aw_w ((w1 49 10) + 1)))) fun r2 w2 =>
            if x3 = 0 then
              m_part_64 c_m_unit c_m_part c_m_condition N (m_part_18 c_m_unit c_m_part c_m_condition N n) w2
            else
              if r2 = 0 then
                m_part_64 c_m_unit c_m_part c_m_condition N (m_part_18 c_m_unit c_m_part c_m_condition N n) w2
              else
                m_part_65 c_m_unit c_m_part c_m_condition N (m_part_18 c_m_unit c_m_part c_m_condition N n) 1 w2
        else
          m_part_69 c_m_unit c_m_part c_m_condition N x3 w1
    else
      m_part_69 c_m_unit c_m_part c_m_condition N x3 w
theorem w_m_part_18 {l : Launch} {K : aw_K} (N d : Nat) (hd : 65 ≤ d) (c_m_unit : aw_W → Option (Int × aw_W)) (c_m_part : Int → Int → aw_W → Option (Int × aw_W)) (c_m_condition : Int → Int → aw_W → Option (Int × aw_W)) (hc_m_unit : ∀ (w : aw_W) (y : Int) (v : aw_W), c_m_unit w = some (y, v) → aw_Met l K MX12_unit (d) [.inr (.inr 49)] w (some (.inl y), v)) (hc_m_part : ∀ (x1 x2 : Int) (w : aw_W) (y : Int) (v : aw_W), c_m_part x1 x2 w = some (y, v) → aw_Met l K MX12_part (d) [.inr (.inr 49), .inl x1, .inl x2] w (some (.inl y), v)) (hc_m_condition : ∀ (x1 x2 : Int) (w : aw_W) (y : Int) (v : aw_W), c_m_condition x1 x2 w = some (y, v) → aw_Met l K MX12_condition (d) [.inr (.inr 49), .inl x1, .inl x2] w (some (.inl y), v)) : ∀ (n : Nat) (x3 : Int) (w : aw_W) (y : Int) (v : aw_W), m_part_18 c_m_unit c_m_part c_m_condition N n x3 w = some (y, v) → aw_AW l K MX12_part (d + 1) 18 [(0, .inr (.inr 49)), (3, .inl x3)] [] w (some (.inl y), v) := by
  intro n
  induction n with
  | zero => intro x3 w y v h; rw [m_part_18] at h; cases h
  | succ n ih =>
    intro x3 w y v h
    rw [m_part_18] at h
    refine aw_aload_n (pc := 18) (q := 0) dX12_part_18 rfl ?_
    refine aw_getf (pc := 19) (v := .inl (w 49 11)) dX12_part_19 fl_RX12_131 (by decide) rfl rfl rfl ?_
    refine aw_iconst (pc := 22) dX12_part_22 ⟨by decide, by decide⟩ ?_
    refine aw_icmp_ne (pc := 23) (tgt := 69) dX12_part_23 (by decide) (fun hc => ?_) (fun hc => ?_)
    · rw [if_neg hc] at h
      exact aw_sel [1] rfl (w_m_part_69 N d hd c_m_unit c_m_part c_m_condition hc_m_unit hc_m_part hc_m_condition  _ _ _ _ h)
    · rw [if_pos hc] at h
      refine aw_aload_n (pc := 26) (q := 0) dX12_part_26 rfl ?_
      obtain ⟨r1, w1, h1, h⟩ := aw_b2s h
      refine aw_callV (pc := 27) (as := []) (st := []) (st' := [.inl r1]) dX12_part_27 cv_RX12_141 (by decide) rfl rfl rfl rfl (Nat.le_of_ble_eq_true rfl) (w_m_look N d (by omega) _ _ _ h1) rfl ?_
      refine aw_bipush (pc := 30) dX12_part_30 (by decide) ⟨by decide, by decide⟩ ?_
      refine aw_icmp_ne (pc := 32) (tgt := 69) dX12_part_32 (by decide) (fun hc => ?_) (fun hc => ?_)
      · rw [if_neg hc] at h
        exact aw_sel [1] rfl (w_m_part_69 N d hd c_m_unit c_m_part c_m_condition hc_m_unit hc_m_part hc_m_condition  _ _ _ _ h)
      · rw [if_pos hc] at h
        refine aw_aload_n (pc := 35) (q := 0) dX12_part_35 rfl ?_
        refine aw_dup (pc := 36) dX12_part_36 rfl ?_
        refine aw_getf (pc := 37) (v := .inl (w1 49 10)) dX12_part_37 fl_RX12_122 (by decide) rfl rfl rfl ?_
        refine aw_iconst (pc := 40) dX12_part_40 ⟨by decide, by decide⟩ ?_
        refine aw_iadd (pc := 41) dX12_part_41 ?_
        refine aw_puti (pc := 42) dX12_part_42 fp_RX12_122 (by decide) rfl rfl ?_
        refine aw_aload_n (pc := 45) (q := 0) dX12_part_45 rfl ?_
        obtain ⟨r2, w2, h2, h⟩ := aw_b2s h
        refine aw_callV (pc := 46) (as := []) (st := []) (st' := [.inl r2]) dX12_part_46 cv_RX12_187 (by decide) rfl rfl rfl rfl (Nat.le_of_ble_eq_true rfl) (hc_m_unit _ _ _ h2) rfl ?_
        refine aw_istore (pc := 49) (ls' := [(4, .inl r2), (0, .inr (.inr 49)), (3, .inl x3)]) dX12_part_49 (by decide) rfl ?_
        refine aw_iload_n (pc := 51) (q := 2) dX12_part_51 rfl ?_
        refine aw_if_eq (pc := 52) (tgt := 64) dX12_part_52 (by decide) (fun hc => ?_) (fun hc => ?_)
        · rw [if_pos hc] at h
          exact aw_sel [1] rfl (w_m_part_64 N d hd c_m_unit c_m_part c_m_condition hc_m_unit hc_m_part hc_m_condition  _ ih _ _ _ h)
        · rw [if_neg hc] at h
          refine aw_iload (pc := 55) (q := 0) dX12_part_55 rfl ?_
          refine aw_if_eq (pc := 57) (tgt := 64) dX12_part_57 (by decide) (fun hc => ?_) (fun hc => ?_)
          · rw [if_pos hc] at h
            exact aw_sel [1] rfl (w_m_part_64 N d hd c_m_unit c_m_part c_m_condition hc_m_unit hc_m_part hc_m_condition  _ ih _ _ _ h)
          · rw [if_neg hc] at h
            refine aw_iconst (pc := 60) dX12_part_60 ⟨by decide, by decide⟩ ?_
            refine aw_goto (pc := 61) (tgt := 65) dX12_part_61 (by decide) ?_
            exact aw_sel [1] rfl (w_m_part_65 N d hd c_m_unit c_m_part c_m_condition hc_m_unit hc_m_part hc_m_condition  _ ih _ _ _ _ h)
def m_part_17 (c_m_unit : aw_W → Option (Int × aw_W)) (c_m_part : Int → Int → aw_W → Option (Int × aw_W)) (c_m_condition : Int → Int → aw_W → Option (Int × aw_W)) (N : Nat) (s0 : Int) (w : aw_W) : Option (Int × aw_W) :=
  m_part_18 c_m_unit c_m_part c_m_condition N N s0 w
theorem w_m_part_17 {l : Launch} {K : aw_K} (N d : Nat) (hd : 65 ≤ d) (c_m_unit : aw_W → Option (Int × aw_W)) (c_m_part : Int → Int → aw_W → Option (Int × aw_W)) (c_m_condition : Int → Int → aw_W → Option (Int × aw_W)) (hc_m_unit : ∀ (w : aw_W) (y : Int) (v : aw_W), c_m_unit w = some (y, v) → aw_Met l K MX12_unit (d) [.inr (.inr 49)] w (some (.inl y), v)) (hc_m_part : ∀ (x1 x2 : Int) (w : aw_W) (y : Int) (v : aw_W), c_m_part x1 x2 w = some (y, v) → aw_Met l K MX12_part (d) [.inr (.inr 49), .inl x1, .inl x2] w (some (.inl y), v)) (hc_m_condition : ∀ (x1 x2 : Int) (w : aw_W) (y : Int) (v : aw_W), c_m_condition x1 x2 w = some (y, v) → aw_Met l K MX12_condition (d) [.inr (.inr 49), .inl x1, .inl x2] w (some (.inl y), v)) : ∀ (s0 : Int) (w : aw_W) (y : Int) (v : aw_W), m_part_17 c_m_unit c_m_part c_m_condition N s0 w = some (y, v) → aw_AW l K MX12_part (d + 1) 17 [(0, .inr (.inr 49))] [.inl s0] w (some (.inl y), v) := by
  intro s0 w y v h
  unfold m_part_17 at h
  refine aw_istore_n (pc := 17) (ls' := [(3, .inl s0), (0, .inr (.inr 49))]) dX12_part_17 (by decide) rfl ?_
  exact aw_sel [1, 0] rfl (w_m_part_18 N d hd c_m_unit c_m_part c_m_condition hc_m_unit hc_m_part hc_m_condition  N _ _ _ _ h)
def m_part_b (c_m_unit : aw_W → Option (Int × aw_W)) (c_m_part : Int → Int → aw_W → Option (Int × aw_W)) (c_m_condition : Int → Int → aw_W → Option (Int × aw_W)) (N : Nat) (x1 x2 : Int) (w : aw_W) : Option (Int × aw_W) :=
  if x1 = 0 then
    aw_b2 (c_m_unit w) fun r1 w1 =>
      m_part_17 c_m_unit c_m_part c_m_condition N r1 w1
  else
    aw_b2 (m_compares N 1 x2 w) fun r2 w2 =>
      m_part_17 c_m_unit c_m_part c_m_condition N r2 w2
theorem w_m_part_b {l : Launch} {K : aw_K} (N d : Nat) (hd : 65 ≤ d) (c_m_unit : aw_W → Option (Int × aw_W)) (c_m_part : Int → Int → aw_W → Option (Int × aw_W)) (c_m_condition : Int → Int → aw_W → Option (Int × aw_W)) (hc_m_unit : ∀ (w : aw_W) (y : Int) (v : aw_W), c_m_unit w = some (y, v) → aw_Met l K MX12_unit (d) [.inr (.inr 49)] w (some (.inl y), v)) (hc_m_part : ∀ (x1 x2 : Int) (w : aw_W) (y : Int) (v : aw_W), c_m_part x1 x2 w = some (y, v) → aw_Met l K MX12_part (d) [.inr (.inr 49), .inl x1, .inl x2] w (some (.inl y), v)) (hc_m_condition : ∀ (x1 x2 : Int) (w : aw_W) (y : Int) (v : aw_W), c_m_condition x1 x2 w = some (y, v) → aw_Met l K MX12_condition (d) [.inr (.inr 49), .inl x1, .inl x2] w (some (.inl y), v)) : ∀ (x1 x2 : Int) (w : aw_W) (y : Int) (v : aw_W), m_part_b c_m_unit c_m_part c_m_condition N x1 x2 w = some (y, v) → aw_Met l K MX12_part (d + 1) [.inr (.inr 49), .inl x1, .inl x2] w (some (.inl y), v) := by
  intro x1 x2 w y v h
  unfold m_part_b at h
  refine aw_enter rfl (Nat.le_of_ble_eq_true rfl) ?_
  show aw_AW l K MX12_part (d + 1) 0 [(0, .inr (.inr 49)), (1, .inl x1), (2, .inl x2)] [] w (some (.inl y), v)
  refine aw_iload_n (pc := 0) (q := 1) dX12_part_0 rfl ?_
  refine aw_if_eq (pc := 1) (tgt := 13) dX12_part_1 (by decide) (fun hc => ?_) (fun hc => ?_)
  · rw [if_pos hc] at h
    refine aw_aload_n (pc := 13) (q := 0) dX12_part_13 rfl ?_
    obtain ⟨r1, w1, h1, h⟩ := aw_b2s h
    refine aw_callV (pc := 14) (as := []) (st := []) (st' := [.inl r1]) dX12_part_14 cv_RX12_187 (by decide) rfl rfl rfl rfl (Nat.le_of_ble_eq_true rfl) (hc_m_unit _ _ _ h1) rfl ?_
    exact aw_sel [0] rfl (w_m_part_17 N d hd c_m_unit c_m_part c_m_condition hc_m_unit hc_m_part hc_m_condition  _ _ _ _ h)
  · rw [if_neg hc] at h
    refine aw_aload_n (pc := 4) (q := 0) dX12_part_4 rfl ?_
    refine aw_iconst (pc := 5) dX12_part_5 ⟨by decide, by decide⟩ ?_
    refine aw_iload_n (pc := 6) (q := 2) dX12_part_6 rfl ?_
    obtain ⟨r2, w2, h2, h⟩ := aw_b2s h
    refine aw_callV (pc := 7) (as := [.inl 1, .inl x2]) (st := []) (st' := [.inl r2]) dX12_part_7 cv_RX12_194 (by decide) rfl rfl rfl rfl (Nat.le_of_ble_eq_true rfl) (w_m_compares N d (by omega) _ _ _ _ _ h2) rfl ?_
    refine aw_goto (pc := 10) (tgt := 17) dX12_part_10 (by decide) ?_
    exact aw_sel [0] rfl (w_m_part_17 N d hd c_m_unit c_m_part c_m_condition hc_m_unit hc_m_part hc_m_condition  _ _ _ _ h)
def m_condition_60 (c_m_unit : aw_W → Option (Int × aw_W)) (c_m_part : Int → Int → aw_W → Option (Int × aw_W)) (c_m_condition : Int → Int → aw_W → Option (Int × aw_W)) (N : Nat) (x3 : Int) (w : aw_W) : Option (Int × aw_W) :=
  if x3 = 0 ∨ x3 = 1 then
    some (x3, w)
  else none
theorem w_m_condition_60 {l : Launch} {K : aw_K} (N d : Nat) (hd : 65 ≤ d) (c_m_unit : aw_W → Option (Int × aw_W)) (c_m_part : Int → Int → aw_W → Option (Int × aw_W)) (c_m_condition : Int → Int → aw_W → Option (Int × aw_W)) (hc_m_unit : ∀ (w : aw_W) (y : Int) (v : aw_W), c_m_unit w = some (y, v) → aw_Met l K MX12_unit (d) [.inr (.inr 49)] w (some (.inl y), v)) (hc_m_part : ∀ (x1 x2 : Int) (w : aw_W) (y : Int) (v : aw_W), c_m_part x1 x2 w = some (y, v) → aw_Met l K MX12_part (d) [.inr (.inr 49), .inl x1, .inl x2] w (some (.inl y), v)) (hc_m_condition : ∀ (x1 x2 : Int) (w : aw_W) (y : Int) (v : aw_W), c_m_condition x1 x2 w = some (y, v) → aw_Met l K MX12_condition (d) [.inr (.inr 49), .inl x1, .inl x2] w (some (.inl y), v)) : ∀ (x3 : Int) (w : aw_W) (y : Int) (v : aw_W), m_condition_60 c_m_unit c_m_part c_m_condition N x3 w = some (y, v) → aw_AW l K MX12_condition (d + 1) 60 [(3, .inl x3)] [] w (some (.inl y), v) := by
  intro x3 w y v h
  unfold m_condition_60 at h
  refine aw_iload_n (pc := 60) (q := 0) dX12_condition_60 rfl ?_
  obtain ⟨hz, h⟩ := aw_cks h
  cases h
  exact aw_zret (pc := 61) rfl hz dX12_condition_61
def m_condition_56 (c_m_unit : aw_W → Option (Int × aw_W)) (c_m_part : Int → Int → aw_W → Option (Int × aw_W)) (c_m_condition : Int → Int → aw_W → Option (Int × aw_W)) (N : Nat) (k7 : Int → aw_W → Option (Int × aw_W)) (s0 : Int) (w : aw_W) : Option (Int × aw_W) :=
  k7 s0 w
theorem w_m_condition_56 {l : Launch} {K : aw_K} (N d : Nat) (hd : 65 ≤ d) (c_m_unit : aw_W → Option (Int × aw_W)) (c_m_part : Int → Int → aw_W → Option (Int × aw_W)) (c_m_condition : Int → Int → aw_W → Option (Int × aw_W)) (hc_m_unit : ∀ (w : aw_W) (y : Int) (v : aw_W), c_m_unit w = some (y, v) → aw_Met l K MX12_unit (d) [.inr (.inr 49)] w (some (.inl y), v)) (hc_m_part : ∀ (x1 x2 : Int) (w : aw_W) (y : Int) (v : aw_W), c_m_part x1 x2 w = some (y, v) → aw_Met l K MX12_part (d) [.inr (.inr 49), .inl x1, .inl x2] w (some (.inl y), v)) (hc_m_condition : ∀ (x1 x2 : Int) (w : aw_W) (y : Int) (v : aw_W), c_m_condition x1 x2 w = some (y, v) → aw_Met l K MX12_condition (d) [.inr (.inr 49), .inl x1, .inl x2] w (some (.inl y), v)) (k7 : Int → aw_W → Option (Int × aw_W)) (hk7 : ∀ (x3 : Int) (w : aw_W) (y : Int) (v : aw_W), k7 x3 w = some (y, v) → aw_AW l K MX12_condition (d + 1) 7 [(0, .inr (.inr 49)), (3, .inl x3)] [] w (some (.inl y), v)) : ∀ (s0 : Int) (w : aw_W) (y : Int) (v : aw_W), m_condition_56 c_m_unit c_m_part c_m_condition N k7 s0 w = some (y, v) → aw_AW l K MX12_condition (d + 1) 56 [(0, .inr (.inr 49))] [.inl s0] w (some (.inl y), v) := by
  intro s0 w y v h
  unfold m_condition_56 at h
  refine aw_istore_n (pc := 56) (ls' := [(3, .inl s0), (0, .inr (.inr 49))]) dX12_condition_56 (by decide) rfl ?_
  refine aw_goto (pc := 57) (tgt := 7) dX12_condition_57 (by decide) ?_
  exact aw_sel [1, 0] rfl (hk7 _ _ _ _ h)
def m_condition_51 (c_m_unit : aw_W → Option (Int × aw_W)) (c_m_part : Int → Int → aw_W → Option (Int × aw_W)) (c_m_condition : Int → Int → aw_W → Option (Int × aw_W)) (N : Nat) (k7 : Int → aw_W → Option (Int × aw_W)) (w : aw_W) : Option (Int × aw_W) :=
  m_condition_56 c_m_unit c_m_part c_m_condition N k7 1 w
theorem w_m_condition_51 {l : Launch} {K : aw_K} (N d : Nat) (hd : 65 ≤ d) (c_m_unit : aw_W → Option (Int × aw_W)) (c_m_part : Int → Int → aw_W → Option (Int × aw_W)) (c_m_condition : Int → Int → aw_W → Option (Int × aw_W)) (hc_m_unit : ∀ (w : aw_W) (y : Int) (v : aw_W), c_m_unit w = some (y, v) → aw_Met l K MX12_unit (d) [.inr (.inr 49)] w (some (.inl y), v)) (hc_m_part : ∀ (x1 x2 : Int) (w : aw_W) (y : Int) (v : aw_W), c_m_part x1 x2 w = some (y, v) → aw_Met l K MX12_part (d) [.inr (.inr 49), .inl x1, .inl x2] w (some (.inl y), v)) (hc_m_condition : ∀ (x1 x2 : Int) (w : aw_W) (y : Int) (v : aw_W), c_m_condition x1 x2 w = some (y, v) → aw_Met l K MX12_condition (d) [.inr (.inr 49), .inl x1, .inl x2] w (some (.inl y), v)) (k7 : Int → aw_W → Option (Int × aw_W)) (hk7 : ∀ (x3 : Int) (w : aw_W) (y : Int) (v : aw_W), k7 x3 w = some (y, v) → aw_AW l K MX12_condition (d + 1) 7 [(0, .inr (.inr 49)), (3, .inl x3)] [] w (some (.inl y), v)) : ∀ (w : aw_W) (y : Int) (v : aw_W), m_condition_51 c_m_unit c_m_part c_m_condition N k7 w = some (y, v) → aw_AW l K MX12_condition (d + 1) 51 [(0, .inr (.inr 49))] [] w (some (.inl y), v) := by
  intro w y v h
  unfold m_condition_51 at h
  refine aw_iconst (pc := 51) dX12_condition_51 ⟨by decide, by decide⟩ ?_
  refine aw_goto (pc := 52) (tgt := 56) dX12_condition_52 (by decide) ?_
  exact aw_sel [0] rfl (w_m_condition_56 N d hd c_m_unit c_m_part c_m_condition hc_m_unit hc_m_part hc_m_condition  _ hk7 _ _ _ _ h)
def m_condition_7 (c_m_unit : aw_W → Option (Int × aw_W)) (c_m_part : Int → Int → aw_W → Option (Int × aw_W)) (c_m_condition : Int → Int → aw_W → Option (Int × aw_W)) (N : Nat) : Nat → Int → aw_W → Option (Int × aw_W)
  | 0, _, _ => none
  | n + 1, x3, w =>
    if (w 49 11) = (-1) then
      aw_b2 (m_look N w) fun r1 w1 =>
        if r1 = 124 then
          aw_b2 (c_m_part 0 0 (aw_up w1 49 10 (aw_w ((w1 49 10) + 1)))) fun r2 w2 =>
            if x3 = 0 then
              if r2 = 0 then
                m_condition_56 c_m_unit c_m_part c_m_condition N (m_condition_7 c_m_unit c_m_part c_m_condition N n) 0 w2
              else
                m_condition_51 c_m_unit c_m_part c_m_condition N (m_condition_7 c_m_unit c_m_part c_m_condition N n) w2
            else
              m_condition_51 c_m_unit c_m_part c_m_condition N (m_condition_7 c_m_unit c_m_part c_m_condition N n) w2
        else
          m_condition_60 c_m_unit c_m_part c_m_condition N x3 w1
    else
      m_condition_60 c_m_unit c_m_part c_m_condition N x3 w
theorem w_m_condition_7 {l : Launch} {K : aw_K} (N d : Nat) (hd : 65 ≤ d) (c_m_unit : aw_W → Option (Int × aw_W)) (c_m_part : Int → Int → aw_W → Option (Int × aw_W)) (c_m_condition : Int → Int → aw_W → Option (Int × aw_W)) (hc_m_unit : ∀ (w : aw_W) (y : Int) (v : aw_W), c_m_unit w = some (y, v) → aw_Met l K MX12_unit (d) [.inr (.inr 49)] w (some (.inl y), v)) (hc_m_part : ∀ (x1 x2 : Int) (w : aw_W) (y : Int) (v : aw_W), c_m_part x1 x2 w = some (y, v) → aw_Met l K MX12_part (d) [.inr (.inr 49), .inl x1, .inl x2] w (some (.inl y), v)) (hc_m_condition : ∀ (x1 x2 : Int) (w : aw_W) (y : Int) (v : aw_W), c_m_condition x1 x2 w = some (y, v) → aw_Met l K MX12_condition (d) [.inr (.inr 49), .inl x1, .inl x2] w (some (.inl y), v)) : ∀ (n : Nat) (x3 : Int) (w : aw_W) (y : Int) (v : aw_W), m_condition_7 c_m_unit c_m_part c_m_condition N n x3 w = some (y, v) → aw_AW l K MX12_condition (d + 1) 7 [(0, .inr (.inr 49)), (3, .inl x3)] [] w (some (.inl y), v) := by
  intro n
  induction n with
  | zero => intro x3 w y v h; rw [m_condition_7] at h; cases h
  | succ n ih =>
    intro x3 w y v h
    rw [m_condition_7] at h
    refine aw_aload_n (pc := 7) (q := 0) dX12_condition_7 rfl ?_
    refine aw_getf (pc := 8) (v := .inl (w 49 11)) dX12_condition_8 fl_RX12_131 (by decide) rfl rfl rfl ?_
    refine aw_iconst (pc := 11) dX12_condition_11 ⟨by decide, by decide⟩ ?_
    refine aw_icmp_ne (pc := 12) (tgt := 60) dX12_condition_12 (by decide) (fun hc => ?_) (fun hc => ?_)
    · rw [if_neg hc] at h
      exact aw_sel [1] rfl (w_m_condition_60 N d hd c_m_unit c_m_part c_m_condition hc_m_unit hc_m_part hc_m_condition  _ _ _ _ h)
    · rw [if_pos hc] at h
      refine aw_aload_n (pc := 15) (q := 0) dX12_condition_15 rfl ?_
      obtain ⟨r1, w1, h1, h⟩ := aw_b2s h
      refine aw_callV (pc := 16) (as := []) (st := []) (st' := [.inl r1]) dX12_condition_16 cv_RX12_141 (by decide) rfl rfl rfl rfl (Nat.le_of_ble_eq_true rfl) (w_m_look N d (by omega) _ _ _ h1) rfl ?_
      refine aw_bipush (pc := 19) dX12_condition_19 (by decide) ⟨by decide, by decide⟩ ?_
      refine aw_icmp_ne (pc := 21) (tgt := 60) dX12_condition_21 (by decide) (fun hc => ?_) (fun hc => ?_)
      · rw [if_neg hc] at h
        exact aw_sel [1] rfl (w_m_condition_60 N d hd c_m_unit c_m_part c_m_condition hc_m_unit hc_m_part hc_m_condition  _ _ _ _ h)
      · rw [if_pos hc] at h
        refine aw_aload_n (pc := 24) (q := 0) dX12_condition_24 rfl ?_
        refine aw_dup (pc := 25) dX12_condition_25 rfl ?_
        refine aw_getf (pc := 26) (v := .inl (w1 49 10)) dX12_condition_26 fl_RX12_122 (by decide) rfl rfl rfl ?_
        refine aw_iconst (pc := 29) dX12_condition_29 ⟨by decide, by decide⟩ ?_
        refine aw_iadd (pc := 30) dX12_condition_30 ?_
        refine aw_puti (pc := 31) dX12_condition_31 fp_RX12_122 (by decide) rfl rfl ?_
        refine aw_aload_n (pc := 34) (q := 0) dX12_condition_34 rfl ?_
        refine aw_iconst (pc := 35) dX12_condition_35 ⟨by decide, by decide⟩ ?_
        refine aw_iconst (pc := 36) dX12_condition_36 ⟨by decide, by decide⟩ ?_
        obtain ⟨r2, w2, h2, h⟩ := aw_b2s h
        refine aw_callV (pc := 37) (as := [.inl 0, .inl 0]) (st := []) (st' := [.inl r2]) dX12_condition_37 cv_RX12_197 (by decide) rfl rfl rfl rfl (Nat.le_of_ble_eq_true rfl) (hc_m_part _ _ _ _ _ h2) rfl ?_
        refine aw_istore (pc := 40) (ls' := [(4, .inl r2), (0, .inr (.inr 49)), (3, .inl x3)]) dX12_condition_40 (by decide) rfl ?_
        refine aw_iload_n (pc := 42) (q := 2) dX12_condition_42 rfl ?_
        refine aw_if_ne (pc := 43) (tgt := 51) dX12_condition_43 (by decide) (fun hc => ?_) (fun hc => ?_)
        · rw [if_neg hc] at h
          exact aw_sel [1] rfl (w_m_condition_51 N d hd c_m_unit c_m_part c_m_condition hc_m_unit hc_m_part hc_m_condition  _ ih _ _ _ h)
        · rw [if_pos hc] at h
          refine aw_iload (pc := 46) (q := 0) dX12_condition_46 rfl ?_
          refine aw_if_eq (pc := 48) (tgt := 55) dX12_condition_48 (by decide) (fun hc => ?_) (fun hc => ?_)
          · rw [if_pos hc] at h
            refine aw_iconst (pc := 55) dX12_condition_55 ⟨by decide, by decide⟩ ?_
            exact aw_sel [1] rfl (w_m_condition_56 N d hd c_m_unit c_m_part c_m_condition hc_m_unit hc_m_part hc_m_condition  _ ih _ _ _ _ h)
          · rw [if_neg hc] at h
            exact aw_sel [1] rfl (w_m_condition_51 N d hd c_m_unit c_m_part c_m_condition hc_m_unit hc_m_part hc_m_condition  _ ih _ _ _ h)
def m_condition_b (c_m_unit : aw_W → Option (Int × aw_W)) (c_m_part : Int → Int → aw_W → Option (Int × aw_W)) (c_m_condition : Int → Int → aw_W → Option (Int × aw_W)) (N : Nat) (x1 x2 : Int) (w : aw_W) : Option (Int × aw_W) :=
  aw_b2 (c_m_part x1 x2 w) fun r1 w1 =>
    m_condition_7 c_m_unit c_m_part c_m_condition N N r1 w1
theorem w_m_condition_b {l : Launch} {K : aw_K} (N d : Nat) (hd : 65 ≤ d) (c_m_unit : aw_W → Option (Int × aw_W)) (c_m_part : Int → Int → aw_W → Option (Int × aw_W)) (c_m_condition : Int → Int → aw_W → Option (Int × aw_W)) (hc_m_unit : ∀ (w : aw_W) (y : Int) (v : aw_W), c_m_unit w = some (y, v) → aw_Met l K MX12_unit (d) [.inr (.inr 49)] w (some (.inl y), v)) (hc_m_part : ∀ (x1 x2 : Int) (w : aw_W) (y : Int) (v : aw_W), c_m_part x1 x2 w = some (y, v) → aw_Met l K MX12_part (d) [.inr (.inr 49), .inl x1, .inl x2] w (some (.inl y), v)) (hc_m_condition : ∀ (x1 x2 : Int) (w : aw_W) (y : Int) (v : aw_W), c_m_condition x1 x2 w = some (y, v) → aw_Met l K MX12_condition (d) [.inr (.inr 49), .inl x1, .inl x2] w (some (.inl y), v)) : ∀ (x1 x2 : Int) (w : aw_W) (y : Int) (v : aw_W), m_condition_b c_m_unit c_m_part c_m_condition N x1 x2 w = some (y, v) → aw_Met l K MX12_condition (d + 1) [.inr (.inr 49), .inl x1, .inl x2] w (some (.inl y), v) := by
  intro x1 x2 w y v h
  unfold m_condition_b at h
  refine aw_enter rfl (Nat.le_of_ble_eq_true rfl) ?_
  show aw_AW l K MX12_condition (d + 1) 0 [(0, .inr (.inr 49)), (1, .inl x1), (2, .inl x2)] [] w (some (.inl y), v)
  refine aw_aload_n (pc := 0) (q := 0) dX12_condition_0 rfl ?_
  refine aw_iload_n (pc := 1) (q := 1) dX12_condition_1 rfl ?_
  refine aw_iload_n (pc := 2) (q := 2) dX12_condition_2 rfl ?_
  obtain ⟨r1, w1, h1, h⟩ := aw_b2s h
  refine aw_callV (pc := 3) (as := [.inl x1, .inl x2]) (st := []) (st' := [.inl r1]) dX12_condition_3 cv_RX12_197 (by decide) rfl rfl rfl rfl (Nat.le_of_ble_eq_true rfl) (hc_m_part _ _ _ _ _ h1) rfl ?_
  refine aw_istore_n (pc := 6) (ls' := [(3, .inl r1), (0, .inr (.inr 49)), (1, .inl x1), (2, .inl x2)]) dX12_condition_6 (by decide) rfl ?_
  exact aw_sel [1, 0] rfl (w_m_condition_7 N d hd c_m_unit c_m_part c_m_condition hc_m_unit hc_m_part hc_m_condition  N _ _ _ _ h)
def g_m_unit (N : Nat) : Nat → (aw_W → Option (Int × aw_W)) × (Int → Int → aw_W → Option (Int × aw_W)) × (Int → Int → aw_W → Option (Int × aw_W))
  | 0 => ((fun _ => none), (fun _ _ _ => none), (fun _ _ _ => none))
  | D + 1 => (m_unit_b (g_m_unit N D).1 (g_m_unit N D).2.1 (g_m_unit N D).2.2 N, m_part_b (g_m_unit N D).1 (g_m_unit N D).2.1 (g_m_unit N D).2.2 N, m_condition_b (g_m_unit N D).1 (g_m_unit N D).2.1 (g_m_unit N D).2.2 N)
def m_unit (N : Nat) : aw_W → Option (Int × aw_W) := (g_m_unit N 60).1
def m_part (N : Nat) : Int → Int → aw_W → Option (Int × aw_W) := (g_m_unit N 60).2.1
def m_condition (N : Nat) : Int → Int → aw_W → Option (Int × aw_W) := (g_m_unit N 60).2.2
theorem w_g_m_unit {l : Launch} {K : aw_K} (N : Nat) : ∀ D d : Nat, 65 + D ≤ d → (∀ (w : aw_W) (y : Int) (v : aw_W), (g_m_unit N D).1 w = some (y, v) → aw_Met l K MX12_unit (d) [.inr (.inr 49)] w (some (.inl y), v)) ∧ (∀ (x1 x2 : Int) (w : aw_W) (y : Int) (v : aw_W), (g_m_unit N D).2.1 x1 x2 w = some (y, v) → aw_Met l K MX12_part (d) [.inr (.inr 49), .inl x1, .inl x2] w (some (.inl y), v)) ∧ (∀ (x1 x2 : Int) (w : aw_W) (y : Int) (v : aw_W), (g_m_unit N D).2.2 x1 x2 w = some (y, v) → aw_Met l K MX12_condition (d) [.inr (.inr 49), .inl x1, .inl x2] w (some (.inl y), v))
  | 0, d, _ => ⟨fun _ _ _ h => (by cases h), fun _ _ _ _ _ h => (by cases h), fun _ _ _ _ _ h => (by cases h)⟩
  | D + 1, 0, h => absurd h (by omega)
  | D + 1, d + 1, h => by
    have ih := w_g_m_unit (l := l) (K := K) N D d (by omega)
    exact ⟨w_m_unit_b N d (by omega) _ _ _ ih.1 ih.2.1 ih.2.2, w_m_part_b N d (by omega) _ _ _ ih.1 ih.2.1 ih.2.2, w_m_condition_b N d (by omega) _ _ _ ih.1 ih.2.1 ih.2.2⟩
theorem w_m_unit {l : Launch} {K : aw_K} (N d : Nat) (hd : 125 ≤ d) : ∀ (w : aw_W) (y : Int) (v : aw_W), m_unit N w = some (y, v) → aw_Met l K MX12_unit (d) [.inr (.inr 49)] w (some (.inl y), v) := (w_g_m_unit N 60 d (by omega)).1
theorem w_m_part {l : Launch} {K : aw_K} (N d : Nat) (hd : 125 ≤ d) : ∀ (x1 x2 : Int) (w : aw_W) (y : Int) (v : aw_W), m_part N x1 x2 w = some (y, v) → aw_Met l K MX12_part (d) [.inr (.inr 49), .inl x1, .inl x2] w (some (.inl y), v) := (w_g_m_unit N 60 d (by omega)).2.1
theorem w_m_condition {l : Launch} {K : aw_K} (N d : Nat) (hd : 125 ≤ d) : ∀ (x1 x2 : Int) (w : aw_W) (y : Int) (v : aw_W), m_condition N x1 x2 w = some (y, v) → aw_Met l K MX12_condition (d) [.inr (.inr 49), .inl x1, .inl x2] w (some (.inl y), v) := (w_g_m_unit N 60 d (by omega)).2.2
