theorem dX7_join_0 : decode cX7_join 0 = .ok (.lconst 0, 1) := by decide +kernel
theorem dX7_join_1 : decode cX7_join 1 = .ok (.lstore_n 3, 1) := by decide +kernel
theorem dX7_join_2 : decode cX7_join 2 = .ok (.iload_n 0, 1) := by decide +kernel
theorem dX7_join_3 : decode cX7_join 3 = .ok (.lookupswitch 139 #[(38, 106), (42, 130), (43, 114), (45, 122), (60, 84), (61, 73), (62, 95), (124, 110)], 73) := by decide +kernel
theorem dX7_join_76 : decode cX7_join 76 = .ok (.iload_n 1, 1) := by decide +kernel
theorem dX7_join_77 : decode cX7_join 77 = .ok (.iload_n 2, 1) := by decide +kernel
theorem dX7_join_78 : decode cX7_join 78 = .ok (.if_icmp .ne 7, 3) := by decide +kernel
theorem dX7_join_81 : decode cX7_join 81 = .ok (.iconst 1, 1) := by decide +kernel
theorem dX7_join_82 : decode cX7_join 82 = .ok (.goto 4, 3) := by decide +kernel
theorem dX7_join_85 : decode cX7_join 85 = .ok (.iconst 0, 1) := by decide +kernel
theorem dX7_join_86 : decode cX7_join 86 = .ok (.ireturn, 1) := by decide +kernel
theorem dX7_join_87 : decode cX7_join 87 = .ok (.iload_n 1, 1) := by decide +kernel
theorem dX7_join_88 : decode cX7_join 88 = .ok (.iload_n 2, 1) := by decide +kernel
theorem dX7_join_89 : decode cX7_join 89 = .ok (.if_icmp .ge 7, 3) := by decide +kernel
theorem dX7_join_92 : decode cX7_join 92 = .ok (.iconst 1, 1) := by decide +kernel
theorem dX7_join_93 : decode cX7_join 93 = .ok (.goto 4, 3) := by decide +kernel
theorem dX7_join_96 : decode cX7_join 96 = .ok (.iconst 0, 1) := by decide +kernel
theorem dX7_join_97 : decode cX7_join 97 = .ok (.ireturn, 1) := by decide +kernel
theorem dX7_join_98 : decode cX7_join 98 = .ok (.iload_n 1, 1) := by decide +kernel
theorem dX7_join_99 : decode cX7_join 99 = .ok (.iload_n 2, 1) := by decide +kernel
theorem dX7_join_100 : decode cX7_join 100 = .ok (.if_icmp .le 7, 3) := by decide +kernel
theorem dX7_join_103 : decode cX7_join 103 = .ok (.iconst 1, 1) := by decide +kernel
theorem dX7_join_104 : decode cX7_join 104 = .ok (.goto 4, 3) := by decide +kernel
theorem dX7_join_107 : decode cX7_join 107 = .ok (.iconst 0, 1) := by decide +kernel
theorem dX7_join_108 : decode cX7_join 108 = .ok (.ireturn, 1) := by decide +kernel
theorem dX7_join_109 : decode cX7_join 109 = .ok (.iload_n 1, 1) := by decide +kernel
theorem dX7_join_110 : decode cX7_join 110 = .ok (.iload_n 2, 1) := by decide +kernel
theorem dX7_join_111 : decode cX7_join 111 = .ok (.iand, 1) := by decide +kernel
theorem dX7_join_112 : decode cX7_join 112 = .ok (.ireturn, 1) := by decide +kernel
theorem dX7_join_113 : decode cX7_join 113 = .ok (.iload_n 1, 1) := by decide +kernel
theorem dX7_join_114 : decode cX7_join 114 = .ok (.iload_n 2, 1) := by decide +kernel
theorem dX7_join_115 : decode cX7_join 115 = .ok (.ior, 1) := by decide +kernel
theorem dX7_join_116 : decode cX7_join 116 = .ok (.ireturn, 1) := by decide +kernel
theorem dX7_join_117 : decode cX7_join 117 = .ok (.iload_n 1, 1) := by decide +kernel
theorem dX7_join_118 : decode cX7_join 118 = .ok (.iload_n 2, 1) := by decide +kernel
theorem dX7_join_119 : decode cX7_join 119 = .ok (.iadd, 1) := by decide +kernel
theorem dX7_join_120 : decode cX7_join 120 = .ok (.i2l, 1) := by decide +kernel
theorem dX7_join_121 : decode cX7_join 121 = .ok (.lstore_n 3, 1) := by decide +kernel
theorem dX7_join_122 : decode cX7_join 122 = .ok (.goto 33, 3) := by decide +kernel
theorem dX7_join_125 : decode cX7_join 125 = .ok (.iload_n 1, 1) := by decide +kernel
theorem dX7_join_126 : decode cX7_join 126 = .ok (.iload_n 2, 1) := by decide +kernel
theorem dX7_join_127 : decode cX7_join 127 = .ok (.isub, 1) := by decide +kernel
theorem dX7_join_128 : decode cX7_join 128 = .ok (.i2l, 1) := by decide +kernel
theorem dX7_join_129 : decode cX7_join 129 = .ok (.lstore_n 3, 1) := by decide +kernel
theorem dX7_join_130 : decode cX7_join 130 = .ok (.goto 25, 3) := by decide +kernel
theorem dX7_join_133 : decode cX7_join 133 = .ok (.iload_n 1, 1) := by decide +kernel
theorem dX7_join_134 : decode cX7_join 134 = .ok (.i2l, 1) := by decide +kernel
theorem dX7_join_135 : decode cX7_join 135 = .ok (.iload_n 2, 1) := by decide +kernel
theorem dX7_join_136 : decode cX7_join 136 = .ok (.i2l, 1) := by decide +kernel
theorem dX7_join_137 : decode cX7_join 137 = .ok (.lmul, 1) := by decide +kernel
theorem dX7_join_138 : decode cX7_join 138 = .ok (.lstore_n 3, 1) := by decide +kernel
theorem dX7_join_139 : decode cX7_join 139 = .ok (.goto 16, 3) := by decide +kernel
theorem dX7_join_142 : decode cX7_join 142 = .ok (.iload_n 2, 1) := by decide +kernel
theorem dX7_join_143 : decode cX7_join 143 = .ok (.ifCond .ne 7, 3) := by decide +kernel
theorem dX7_join_146 : decode cX7_join 146 = .ok (.lconst 0, 1) := by decide +kernel
theorem dX7_join_147 : decode cX7_join 147 = .ok (.goto 7, 3) := by decide +kernel
theorem dX7_join_150 : decode cX7_join 150 = .ok (.iload_n 1, 1) := by decide +kernel
theorem dX7_join_151 : decode cX7_join 151 = .ok (.iload_n 2, 1) := by decide +kernel
theorem dX7_join_152 : decode cX7_join 152 = .ok (.idiv, 1) := by decide +kernel
theorem dX7_join_153 : decode cX7_join 153 = .ok (.i2l, 1) := by decide +kernel
theorem dX7_join_154 : decode cX7_join 154 = .ok (.lstore_n 3, 1) := by decide +kernel
theorem dX7_join_155 : decode cX7_join 155 = .ok (.ldc2_w 104, 3) := by decide +kernel
theorem dX7_join_158 : decode cX7_join 158 = .ok (.ldc2_w 106, 3) := by decide +kernel
theorem dX7_join_161 : decode cX7_join 161 = .ok (.lload_n 3, 1) := by decide +kernel
theorem dX7_join_162 : decode cX7_join 162 = .ok (.invokestatic 108, 3) := by decide +kernel
theorem dX7_join_165 : decode cX7_join 165 = .ok (.invokestatic 114, 3) := by decide +kernel
theorem dX7_join_168 : decode cX7_join 168 = .ok (.l2i, 1) := by decide +kernel
theorem dX7_join_169 : decode cX7_join 169 = .ok (.ireturn, 1) := by decide +kernel
def x_Rules_join_155 (N : Nat) (x3 : Int) (w : aw_W) : Option (Int × aw_W) :=
  some (aw_w (aw_mxL (-1000000) (aw_mn 1000000 x3)), w)
theorem w_x_Rules_join_155 {l : Launch} {K : aw_K} (N d : Nat) : ∀ (x3 : Int) (w : aw_W) (y : Int) (v : aw_W), x_Rules_join_155 N x3 w = some (y, v) → aw_AW l K MX7_join (d) 155 [(3, .inr (.inl x3))] [] w (some (.inl y), v) := by
  intro x3 w y v h
  unfold x_Rules_join_155 at h
  refine aw_ldc2 (pc := 155) (x := (-1000000)) dX7_join_155 cl_RX7_104 ⟨by decide, by decide⟩ ?_
  refine aw_ldc2 (pc := 158) (x := 1000000) dX7_join_158 cl_RX7_106 ⟨by decide, by decide⟩ ?_
  refine aw_lload_n (pc := 161) (q := 0) dX7_join_161 rfl ?_
  refine aw_mminL (pc := 162) dX7_join_162 cm_RX7_108 (Nat.le_of_ble_eq_true rfl) ?_
  refine aw_mmaxL (pc := 165) dX7_join_165 cm_RX7_114 (Nat.le_of_ble_eq_true rfl) ?_
  refine aw_l2i (pc := 168) dX7_join_168 ?_
  cases h
  exact aw_iret (pc := 169) rfl dX7_join_169
def x_Rules_join_154 (N : Nat) (s0 : Int) (w : aw_W) : Option (Int × aw_W) :=
  x_Rules_join_155 N s0 w
theorem w_x_Rules_join_154 {l : Launch} {K : aw_K} (N d : Nat) : ∀ (s0 : Int) (w : aw_W) (y : Int) (v : aw_W), x_Rules_join_154 N s0 w = some (y, v) → aw_AW l K MX7_join (d) 154 [] [.inr (.inl s0)] w (some (.inl y), v) := by
  intro s0 w y v h
  unfold x_Rules_join_154 at h
  refine aw_lstore_n (pc := 154) (ls' := [(3, .inr (.inl s0))]) dX7_join_154 (by decide) rfl ?_
  exact aw_sel [0] rfl (w_x_Rules_join_155 N d  _ _ _ _ h)
def x_Rules_join_108 (N : Nat) (s0 : Int) (w : aw_W) : Option (Int × aw_W) :=
  some (s0, w)
theorem w_x_Rules_join_108 {l : Launch} {K : aw_K} (N d : Nat) : ∀ (s0 : Int) (w : aw_W) (y : Int) (v : aw_W), x_Rules_join_108 N s0 w = some (y, v) → aw_AW l K MX7_join (d) 108 [] [.inl s0] w (some (.inl y), v) := by
  intro s0 w y v h
  unfold x_Rules_join_108 at h
  cases h
  exact aw_iret (pc := 108) rfl dX7_join_108
def x_Rules_join_86 (N : Nat) (s0 : Int) (w : aw_W) : Option (Int × aw_W) :=
  some (s0, w)
theorem w_x_Rules_join_86 {l : Launch} {K : aw_K} (N d : Nat) : ∀ (s0 : Int) (w : aw_W) (y : Int) (v : aw_W), x_Rules_join_86 N s0 w = some (y, v) → aw_AW l K MX7_join (d) 86 [] [.inl s0] w (some (.inl y), v) := by
  intro s0 w y v h
  unfold x_Rules_join_86 at h
  cases h
  exact aw_iret (pc := 86) rfl dX7_join_86
def x_Rules_join_97 (N : Nat) (s0 : Int) (w : aw_W) : Option (Int × aw_W) :=
  some (s0, w)
theorem w_x_Rules_join_97 {l : Launch} {K : aw_K} (N d : Nat) : ∀ (s0 : Int) (w : aw_W) (y : Int) (v : aw_W), x_Rules_join_97 N s0 w = some (y, v) → aw_AW l K MX7_join (d) 97 [] [.inl s0] w (some (.inl y), v) := by
  intro s0 w y v h
  unfold x_Rules_join_97 at h
  cases h
  exact aw_iret (pc := 97) rfl dX7_join_97
def x_Rules_join (N : Nat) (x0 x1 x2 : Int) (w : aw_W) : Option (Int × aw_W) :=
  if x0 = 38 then
    some (aw_and x1 x2, w)
  else
    if x0 = 42 then
      x_Rules_join_155 N (aw_wl (x1 * x2)) w
    else
      if x0 = 43 then
        x_Rules_join_155 N (aw_w (x1 + x2)) w
      else
        if x0 = 45 then
          x_Rules_join_155 N (aw_w (x1 - x2)) w
        else
          if x0 = 60 then
            if x2 ≤ x1 then
              x_Rules_join_97 N 0 w
            else
              x_Rules_join_97 N 1 w
          else
            if x0 = 61 then
              if x1 = x2 then
                x_Rules_join_86 N 1 w
              else
                x_Rules_join_86 N 0 w
            else
              if x0 = 62 then
                if x1 ≤ x2 then
                  x_Rules_join_108 N 0 w
                else
                  x_Rules_join_108 N 1 w
              else
                if x0 = 124 then
                  some (aw_or x1 x2, w)
                else
                  if x2 = 0 then
                    x_Rules_join_154 N 0 w
                  else
                    if ¬ x2 = 0 then
                      x_Rules_join_154 N (aw_w (Int.tdiv x1 x2)) w
                    else none
theorem w_x_Rules_join {l : Launch} {K : aw_K} (N d : Nat) (hd : 0 ≤ d) : ∀ (x0 x1 x2 : Int) (w : aw_W) (y : Int) (v : aw_W), x_Rules_join N x0 x1 x2 w = some (y, v) → aw_Met l K MX7_join (d) [.inl x0, .inl x1, .inl x2] w (some (.inl y), v) := by
  intro x0 x1 x2 w y v h
  unfold x_Rules_join at h
  refine aw_enter rfl (Nat.le_of_ble_eq_true rfl) ?_
  show aw_AW l K MX7_join (d) 0 [(0, .inl x0), (1, .inl x1), (2, .inl x2)] [] w (some (.inl y), v)
  refine aw_lconst (pc := 0) (x := 0) dX7_join_0 (by decide) ⟨by decide, by decide⟩ ?_
  refine aw_lstore_n (pc := 1) (ls' := [(3, .inr (.inl 0)), (0, .inl x0), (1, .inl x1), (2, .inl x2)]) dX7_join_1 (by decide) rfl ?_
  refine aw_iload_n (pc := 2) (q := 1) dX7_join_2 rfl ?_
  by_cases hc0 : x0 = 38
  · rw [if_pos hc0] at h
    refine aw_look (pc := 3) (tgt := 109) (off := 106) dX7_join_3 (by decide) (by rw [hc0]; rfl) (by decide) ?_
    refine aw_iload_n (pc := 109) (q := 2) dX7_join_109 rfl ?_
    refine aw_iload_n (pc := 110) (q := 3) dX7_join_110 rfl ?_
    refine aw_iand (pc := 111) dX7_join_111 ?_
    cases h
    exact aw_iret (pc := 112) rfl dX7_join_112
  · rw [if_neg hc0] at h
    by_cases hc1 : x0 = 42
    · rw [if_pos hc1] at h
      refine aw_look (pc := 3) (tgt := 133) (off := 130) dX7_join_3 (by decide) (by rw [hc1]; rfl) (by decide) ?_
      refine aw_iload_n (pc := 133) (q := 2) dX7_join_133 rfl ?_
      refine aw_i2l (pc := 134) dX7_join_134 ?_
      refine aw_iload_n (pc := 135) (q := 3) dX7_join_135 rfl ?_
      refine aw_i2l (pc := 136) dX7_join_136 ?_
      refine aw_lmul (pc := 137) dX7_join_137 ?_
      refine aw_lstore_n (pc := 138) (ls' := [(3, .inr (.inl (aw_wl (x1 * x2)))), (0, .inl x0), (1, .inl x1), (2, .inl x2)]) dX7_join_138 (by decide) rfl ?_
      refine aw_goto (pc := 139) (tgt := 155) dX7_join_139 (by decide) ?_
      exact aw_sel [0] rfl (w_x_Rules_join_155 N d  _ _ _ _ h)
    · rw [if_neg hc1] at h
      by_cases hc2 : x0 = 43
      · rw [if_pos hc2] at h
        refine aw_look (pc := 3) (tgt := 117) (off := 114) dX7_join_3 (by decide) (by rw [hc2]; rfl) (by decide) ?_
        refine aw_iload_n (pc := 117) (q := 2) dX7_join_117 rfl ?_
        refine aw_iload_n (pc := 118) (q := 3) dX7_join_118 rfl ?_
        refine aw_iadd (pc := 119) dX7_join_119 ?_
        refine aw_i2l (pc := 120) dX7_join_120 ?_
        refine aw_lstore_n (pc := 121) (ls' := [(3, .inr (.inl (aw_w (x1 + x2)))), (0, .inl x0), (1, .inl x1), (2, .inl x2)]) dX7_join_121 (by decide) rfl ?_
        refine aw_goto (pc := 122) (tgt := 155) dX7_join_122 (by decide) ?_
        exact aw_sel [0] rfl (w_x_Rules_join_155 N d  _ _ _ _ h)
      · rw [if_neg hc2] at h
        by_cases hc3 : x0 = 45
        · rw [if_pos hc3] at h
          refine aw_look (pc := 3) (tgt := 125) (off := 122) dX7_join_3 (by decide) (by rw [hc3]; rfl) (by decide) ?_
          refine aw_iload_n (pc := 125) (q := 2) dX7_join_125 rfl ?_
          refine aw_iload_n (pc := 126) (q := 3) dX7_join_126 rfl ?_
          refine aw_isub (pc := 127) dX7_join_127 ?_
          refine aw_i2l (pc := 128) dX7_join_128 ?_
          refine aw_lstore_n (pc := 129) (ls' := [(3, .inr (.inl (aw_w (x1 - x2)))), (0, .inl x0), (1, .inl x1), (2, .inl x2)]) dX7_join_129 (by decide) rfl ?_
          refine aw_goto (pc := 130) (tgt := 155) dX7_join_130 (by decide) ?_
          exact aw_sel [0] rfl (w_x_Rules_join_155 N d  _ _ _ _ h)
        · rw [if_neg hc3] at h
          by_cases hc4 : x0 = 60
          · rw [if_pos hc4] at h
            refine aw_look (pc := 3) (tgt := 87) (off := 84) dX7_join_3 (by decide) (by rw [hc4]; rfl) (by decide) ?_
            refine aw_iload_n (pc := 87) (q := 2) dX7_join_87 rfl ?_
            refine aw_iload_n (pc := 88) (q := 3) dX7_join_88 rfl ?_
            refine aw_icmp_ge (pc := 89) (tgt := 96) dX7_join_89 (by decide) (fun hc => ?_) (fun hc => ?_)
            · rw [if_pos hc] at h
              refine aw_iconst (pc := 96) dX7_join_96 ⟨by decide, by decide⟩ ?_
              exact aw_sel [] rfl (w_x_Rules_join_97 N d  _ _ _ _ h)
            · rw [if_neg hc] at h
              refine aw_iconst (pc := 92) dX7_join_92 ⟨by decide, by decide⟩ ?_
              refine aw_goto (pc := 93) (tgt := 97) dX7_join_93 (by decide) ?_
              exact aw_sel [] rfl (w_x_Rules_join_97 N d  _ _ _ _ h)
          · rw [if_neg hc4] at h
            by_cases hc5 : x0 = 61
            · rw [if_pos hc5] at h
              refine aw_look (pc := 3) (tgt := 76) (off := 73) dX7_join_3 (by decide) (by rw [hc5]; rfl) (by decide) ?_
              refine aw_iload_n (pc := 76) (q := 2) dX7_join_76 rfl ?_
              refine aw_iload_n (pc := 77) (q := 3) dX7_join_77 rfl ?_
              refine aw_icmp_ne (pc := 78) (tgt := 85) dX7_join_78 (by decide) (fun hc => ?_) (fun hc => ?_)
              · rw [if_neg hc] at h
                refine aw_iconst (pc := 85) dX7_join_85 ⟨by decide, by decide⟩ ?_
                exact aw_sel [] rfl (w_x_Rules_join_86 N d  _ _ _ _ h)
              · rw [if_pos hc] at h
                refine aw_iconst (pc := 81) dX7_join_81 ⟨by decide, by decide⟩ ?_
                refine aw_goto (pc := 82) (tgt := 86) dX7_join_82 (by decide) ?_
                exact aw_sel [] rfl (w_x_Rules_join_86 N d  _ _ _ _ h)
            · rw [if_neg hc5] at h
              by_cases hc6 : x0 = 62
              · rw [if_pos hc6] at h
                refine aw_look (pc := 3) (tgt := 98) (off := 95) dX7_join_3 (by decide) (by rw [hc6]; rfl) (by decide) ?_
                refine aw_iload_n (pc := 98) (q := 2) dX7_join_98 rfl ?_
                refine aw_iload_n (pc := 99) (q := 3) dX7_join_99 rfl ?_
                refine aw_icmp_le (pc := 100) (tgt := 107) dX7_join_100 (by decide) (fun hc => ?_) (fun hc => ?_)
                · rw [if_pos hc] at h
                  refine aw_iconst (pc := 107) dX7_join_107 ⟨by decide, by decide⟩ ?_
                  exact aw_sel [] rfl (w_x_Rules_join_108 N d  _ _ _ _ h)
                · rw [if_neg hc] at h
                  refine aw_iconst (pc := 103) dX7_join_103 ⟨by decide, by decide⟩ ?_
                  refine aw_goto (pc := 104) (tgt := 108) dX7_join_104 (by decide) ?_
                  exact aw_sel [] rfl (w_x_Rules_join_108 N d  _ _ _ _ h)
              · rw [if_neg hc6] at h
                by_cases hc7 : x0 = 124
                · rw [if_pos hc7] at h
                  refine aw_look (pc := 3) (tgt := 113) (off := 110) dX7_join_3 (by decide) (by rw [hc7]; rfl) (by decide) ?_
                  refine aw_iload_n (pc := 113) (q := 2) dX7_join_113 rfl ?_
                  refine aw_iload_n (pc := 114) (q := 3) dX7_join_114 rfl ?_
                  refine aw_ior (pc := 115) dX7_join_115 ?_
                  cases h
                  exact aw_iret (pc := 116) rfl dX7_join_116
                · rw [if_neg hc7] at h
                  refine aw_look (pc := 3) (tgt := 142) (off := 139) dX7_join_3 (by decide) (by simp [Op.lookupswitch.offset_cons, Op.lookupswitch.offset_nil, Ne.symm hc0, Ne.symm hc1, Ne.symm hc2, Ne.symm hc3, Ne.symm hc4, Ne.symm hc5, Ne.symm hc6, Ne.symm hc7]) (by decide) ?_
                  refine aw_iload_n (pc := 142) (q := 3) dX7_join_142 rfl ?_
                  refine aw_if_ne (pc := 143) (tgt := 150) dX7_join_143 (by decide) (fun hc => ?_) (fun hc => ?_)
                  · rw [if_neg hc] at h
                    refine aw_iload_n (pc := 150) (q := 2) dX7_join_150 rfl ?_
                    refine aw_iload_n (pc := 151) (q := 3) dX7_join_151 rfl ?_
                    obtain ⟨hy, h⟩ := aw_cks h
                    refine aw_idiv (pc := 152) dX7_join_152 hy ?_
                    refine aw_i2l (pc := 153) dX7_join_153 ?_
                    exact aw_sel [] rfl (w_x_Rules_join_154 N d  _ _ _ _ h)
                  · rw [if_pos hc] at h
                    refine aw_lconst (pc := 146) (x := 0) dX7_join_146 (by decide) ⟨by decide, by decide⟩ ?_
                    refine aw_goto (pc := 147) (tgt := 154) dX7_join_147 (by decide) ?_
                    exact aw_sel [] rfl (w_x_Rules_join_154 N d  _ _ _ _ h)
theorem dX7_apply_0 : decode cX7_apply 0 = .ok (.iload_n 1, 1) := by decide +kernel
theorem dX7_apply_1 : decode cX7_apply 1 = .ok (.getstatic 24, 3) := by decide +kernel
theorem dX7_apply_4 : decode cX7_apply 4 = .ok (.arraylength, 1) := by decide +kernel
theorem dX7_apply_5 : decode cX7_apply 5 = .ok (.if_icmp .gt 45, 3) := by decide +kernel
theorem dX7_apply_8 : decode cX7_apply 8 = .ok (.iload_n 2, 1) := by decide +kernel
theorem dX7_apply_9 : decode cX7_apply 9 = .ok (.ifCond .lt 12, 3) := by decide +kernel
theorem dX7_apply_12 : decode cX7_apply 12 = .ok (.iload_n 2, 1) := by decide +kernel
theorem dX7_apply_13 : decode cX7_apply 13 = .ok (.aload_n 0, 1) := by decide +kernel
theorem dX7_apply_14 : decode cX7_apply 14 = .ok (.getfield 21, 3) := by decide +kernel
theorem dX7_apply_17 : decode cX7_apply 17 = .ok (.arraylength, 1) := by decide +kernel
theorem dX7_apply_18 : decode cX7_apply 18 = .ok (.if_icmp .lt 5, 3) := by decide +kernel
theorem dX7_apply_21 : decode cX7_apply 21 = .ok (.iload_n 2, 1) := by decide +kernel
theorem dX7_apply_22 : decode cX7_apply 22 = .ok (.ireturn, 1) := by decide +kernel
theorem dX7_apply_23 : decode cX7_apply 23 = .ok (.aload_n 0, 1) := by decide +kernel
theorem dX7_apply_24 : decode cX7_apply 24 = .ok (.getfield 21, 3) := by decide +kernel
theorem dX7_apply_27 : decode cX7_apply 27 = .ok (.iload_n 2, 1) := by decide +kernel
theorem dX7_apply_28 : decode cX7_apply 28 = .ok (.iload_n 1, 1) := by decide +kernel
theorem dX7_apply_29 : decode cX7_apply 29 = .ok (.ifCond .gt 8, 3) := by decide +kernel
theorem dX7_apply_32 : decode cX7_apply 32 = .ok (.iload_n 1, 1) := by decide +kernel
theorem dX7_apply_33 : decode cX7_apply 33 = .ok (.ineg, 1) := by decide +kernel
theorem dX7_apply_34 : decode cX7_apply 34 = .ok (.goto 11, 3) := by decide +kernel
theorem dX7_apply_37 : decode cX7_apply 37 = .ok (.aload_n 0, 1) := by decide +kernel
theorem dX7_apply_38 : decode cX7_apply 38 = .ok (.getfield 27, 3) := by decide +kernel
theorem dX7_apply_41 : decode cX7_apply 41 = .ok (.iload_n 1, 1) := by decide +kernel
theorem dX7_apply_42 : decode cX7_apply 42 = .ok (.iconst 1, 1) := by decide +kernel
theorem dX7_apply_43 : decode cX7_apply 43 = .ok (.isub, 1) := by decide +kernel
theorem dX7_apply_44 : decode cX7_apply 44 = .ok (.iaload, 1) := by decide +kernel
theorem dX7_apply_45 : decode cX7_apply 45 = .ok (.iastore, 1) := by decide +kernel
theorem dX7_apply_46 : decode cX7_apply 46 = .ok (.iload_n 2, 1) := by decide +kernel
theorem dX7_apply_47 : decode cX7_apply 47 = .ok (.iconst 1, 1) := by decide +kernel
theorem dX7_apply_48 : decode cX7_apply 48 = .ok (.iadd, 1) := by decide +kernel
theorem dX7_apply_49 : decode cX7_apply 49 = .ok (.ireturn, 1) := by decide +kernel
theorem dX7_apply_50 : decode cX7_apply 50 = .ok (.iload_n 1, 1) := by decide +kernel
theorem dX7_apply_51 : decode cX7_apply 51 = .ok (.bipush 33, 2) := by decide +kernel
theorem dX7_apply_53 : decode cX7_apply 53 = .ok (.if_icmp .ne 28, 3) := by decide +kernel
theorem dX7_apply_56 : decode cX7_apply 56 = .ok (.iload_n 2, 1) := by decide +kernel
theorem dX7_apply_57 : decode cX7_apply 57 = .ok (.iconst 1, 1) := by decide +kernel
theorem dX7_apply_58 : decode cX7_apply 58 = .ok (.if_icmp .lt 21, 3) := by decide +kernel
theorem dX7_apply_61 : decode cX7_apply 61 = .ok (.aload_n 0, 1) := by decide +kernel
theorem dX7_apply_62 : decode cX7_apply 62 = .ok (.getfield 21, 3) := by decide +kernel
theorem dX7_apply_65 : decode cX7_apply 65 = .ok (.iload_n 2, 1) := by decide +kernel
theorem dX7_apply_66 : decode cX7_apply 66 = .ok (.iconst 1, 1) := by decide +kernel
theorem dX7_apply_67 : decode cX7_apply 67 = .ok (.isub, 1) := by decide +kernel
theorem dX7_apply_68 : decode cX7_apply 68 = .ok (.iconst 1, 1) := by decide +kernel
theorem dX7_apply_69 : decode cX7_apply 69 = .ok (.aload_n 0, 1) := by decide +kernel
theorem dX7_apply_70 : decode cX7_apply 70 = .ok (.getfield 21, 3) := by decide +kernel
theorem dX7_apply_73 : decode cX7_apply 73 = .ok (.iload_n 2, 1) := by decide +kernel
theorem dX7_apply_74 : decode cX7_apply 74 = .ok (.iconst 1, 1) := by decide +kernel
theorem dX7_apply_75 : decode cX7_apply 75 = .ok (.isub, 1) := by decide +kernel
theorem dX7_apply_76 : decode cX7_apply 76 = .ok (.iaload, 1) := by decide +kernel
theorem dX7_apply_77 : decode cX7_apply 77 = .ok (.isub, 1) := by decide +kernel
theorem dX7_apply_78 : decode cX7_apply 78 = .ok (.iastore, 1) := by decide +kernel
theorem dX7_apply_79 : decode cX7_apply 79 = .ok (.iload_n 2, 1) := by decide +kernel
theorem dX7_apply_80 : decode cX7_apply 80 = .ok (.ireturn, 1) := by decide +kernel
theorem dX7_apply_81 : decode cX7_apply 81 = .ok (.iload_n 2, 1) := by decide +kernel
theorem dX7_apply_82 : decode cX7_apply 82 = .ok (.iconst 2, 1) := by decide +kernel
theorem dX7_apply_83 : decode cX7_apply 83 = .ok (.if_icmp .ge 5, 3) := by decide +kernel
theorem dX7_apply_86 : decode cX7_apply 86 = .ok (.iload_n 2, 1) := by decide +kernel
theorem dX7_apply_87 : decode cX7_apply 87 = .ok (.ireturn, 1) := by decide +kernel
theorem dX7_apply_88 : decode cX7_apply 88 = .ok (.aload_n 0, 1) := by decide +kernel
theorem dX7_apply_89 : decode cX7_apply 89 = .ok (.getfield 21, 3) := by decide +kernel
theorem dX7_apply_92 : decode cX7_apply 92 = .ok (.iload_n 2, 1) := by decide +kernel
theorem dX7_apply_93 : decode cX7_apply 93 = .ok (.iconst 2, 1) := by decide +kernel
theorem dX7_apply_94 : decode cX7_apply 94 = .ok (.isub, 1) := by decide +kernel
theorem dX7_apply_95 : decode cX7_apply 95 = .ok (.iload_n 1, 1) := by decide +kernel
theorem dX7_apply_96 : decode cX7_apply 96 = .ok (.aload_n 0, 1) := by decide +kernel
theorem dX7_apply_97 : decode cX7_apply 97 = .ok (.getfield 21, 3) := by decide +kernel
theorem dX7_apply_100 : decode cX7_apply 100 = .ok (.iload_n 2, 1) := by decide +kernel
theorem dX7_apply_101 : decode cX7_apply 101 = .ok (.iconst 2, 1) := by decide +kernel
theorem dX7_apply_102 : decode cX7_apply 102 = .ok (.isub, 1) := by decide +kernel
theorem dX7_apply_103 : decode cX7_apply 103 = .ok (.iaload, 1) := by decide +kernel
theorem dX7_apply_104 : decode cX7_apply 104 = .ok (.aload_n 0, 1) := by decide +kernel
theorem dX7_apply_105 : decode cX7_apply 105 = .ok (.getfield 21, 3) := by decide +kernel
theorem dX7_apply_108 : decode cX7_apply 108 = .ok (.iload_n 2, 1) := by decide +kernel
theorem dX7_apply_109 : decode cX7_apply 109 = .ok (.iconst 1, 1) := by decide +kernel
theorem dX7_apply_110 : decode cX7_apply 110 = .ok (.isub, 1) := by decide +kernel
theorem dX7_apply_111 : decode cX7_apply 111 = .ok (.iaload, 1) := by decide +kernel
theorem dX7_apply_112 : decode cX7_apply 112 = .ok (.invokestatic 100, 3) := by decide +kernel
theorem dX7_apply_115 : decode cX7_apply 115 = .ok (.iastore, 1) := by decide +kernel
theorem dX7_apply_116 : decode cX7_apply 116 = .ok (.iload_n 2, 1) := by decide +kernel
theorem dX7_apply_117 : decode cX7_apply 117 = .ok (.iconst 1, 1) := by decide +kernel
theorem dX7_apply_118 : decode cX7_apply 118 = .ok (.isub, 1) := by decide +kernel
theorem dX7_apply_119 : decode cX7_apply 119 = .ok (.ireturn, 1) := by decide +kernel
def x_Rules_apply_79 (N : Nat) (x2 : Int) (w : aw_W) : Option (Int × aw_W) :=
  some (x2, w)
theorem w_x_Rules_apply_79 {l : Launch} {K : aw_K} (N d : Nat) (hd : 0 ≤ d) : ∀ (x2 : Int) (w : aw_W) (y : Int) (v : aw_W), x_Rules_apply_79 N x2 w = some (y, v) → aw_AW l K MX7_apply (d + 1) 79 [(2, .inl x2)] [] w (some (.inl y), v) := by
  intro x2 w y v h
  unfold x_Rules_apply_79 at h
  refine aw_iload_n (pc := 79) (q := 0) dX7_apply_79 rfl ?_
  cases h
  exact aw_iret (pc := 80) rfl dX7_apply_80
def x_Rules_apply_21 (N : Nat) (x2 : Int) (w : aw_W) : Option (Int × aw_W) :=
  some (x2, w)
theorem w_x_Rules_apply_21 {l : Launch} {K : aw_K} (N d : Nat) (hd : 0 ≤ d) : ∀ (x2 : Int) (w : aw_W) (y : Int) (v : aw_W), x_Rules_apply_21 N x2 w = some (y, v) → aw_AW l K MX7_apply (d + 1) 21 [(2, .inl x2)] [] w (some (.inl y), v) := by
  intro x2 w y v h
  unfold x_Rules_apply_21 at h
  refine aw_iload_n (pc := 21) (q := 0) dX7_apply_21 rfl ?_
  cases h
  exact aw_iret (pc := 22) rfl dX7_apply_22
def x_Rules_apply_45 (N : Nat) (x2 s0 s1 : Int) (w : aw_W) : Option (Int × aw_W) :=
  if 0 ≤ s1 ∧ s1 < 64 then
    some (aw_w (x2 + 1), (aw_up w 15 s1.toNat s0))
  else none
theorem w_x_Rules_apply_45 {l : Launch} {K : aw_K} (N d : Nat) (hd : 0 ≤ d) : ∀ (x2 s0 s1 : Int) (w : aw_W) (y : Int) (v : aw_W), x_Rules_apply_45 N x2 s0 s1 w = some (y, v) → aw_AW l K MX7_apply (d + 1) 45 [(2, .inl x2)] [.inl s0, .inl s1, .inr (.inr 15)] w (some (.inl y), v) := by
  intro x2 s0 s1 w y v h
  unfold x_Rules_apply_45 at h
  obtain ⟨hb, h⟩ := aw_cks h
  refine aw_iast (pc := 45) dX7_apply_45 rfl hb.1 hb.2 ?_
  refine aw_iload_n (pc := 46) (q := 0) dX7_apply_46 rfl ?_
  refine aw_iconst (pc := 47) dX7_apply_47 ⟨by decide, by decide⟩ ?_
  refine aw_iadd (pc := 48) dX7_apply_48 ?_
  cases h
  exact aw_iret (pc := 49) rfl dX7_apply_49
def x_Rules_apply (N : Nat) (x1 x2 : Int) (w : aw_W) : Option (Int × aw_W) :=
  if 6 < x1 then
    if x1 = 33 then
      if x2 < 1 then
        x_Rules_apply_79 N x2 w
      else
        if 0 ≤ (aw_w (x2 - 1)) ∧ (aw_w (x2 - 1)) < 64 then
          if 0 ≤ (aw_w (x2 - 1)) ∧ (aw_w (x2 - 1)) < 64 then
            x_Rules_apply_79 N x2 (aw_up w 15 ((aw_w (x2 - 1)).toNat) (aw_w (1 - (w 15 ((aw_w (x2 - 1)).toNat)))))
          else none
        else none
    else
      if 2 ≤ x2 then
        if 0 ≤ (aw_w (x2 - 2)) ∧ (aw_w (x2 - 2)) < 64 then
          if 0 ≤ (aw_w (x2 - 1)) ∧ (aw_w (x2 - 1)) < 64 then
            aw_b2 (x_Rules_join N x1 (w 15 ((aw_w (x2 - 2)).toNat)) (w 15 ((aw_w (x2 - 1)).toNat)) w) fun r1 w1 =>
              if 0 ≤ (aw_w (x2 - 2)) ∧ (aw_w (x2 - 2)) < 64 then
                some (aw_w (x2 - 1), (aw_up w1 15 ((aw_w (x2 - 2)).toNat) r1))
              else none
          else none
        else none
      else
        some (x2, w)
  else
    if x2 < 0 then
      x_Rules_apply_21 N x2 w
    else
      if x2 < 64 then
        if 0 < x1 then
          if 0 ≤ (aw_w (x1 - 1)) ∧ (aw_w (x1 - 1)) < 6 then
            x_Rules_apply_45 N x2 (w 16 ((aw_w (x1 - 1)).toNat)) x2 w
          else none
        else
          x_Rules_apply_45 N x2 (aw_w (-x1)) x2 w
      else
        x_Rules_apply_21 N x2 w
theorem w_x_Rules_apply_d {l : Launch} {K : aw_K} (N d : Nat) (hd : 0 ≤ d) : ∀ (x1 x2 : Int) (w : aw_W) (y : Int) (v : aw_W), x_Rules_apply N x1 x2 w = some (y, v) → aw_Met l K MX7_apply (d + 1) [.inr (.inr 11), .inl x1, .inl x2] w (some (.inl y), v) := by
  intro x1 x2 w y v h
  unfold x_Rules_apply at h
  refine aw_enter rfl (Nat.le_of_ble_eq_true rfl) ?_
  show aw_AW l K MX7_apply (d + 1) 0 [(0, .inr (.inr 11)), (1, .inl x1), (2, .inl x2)] [] w (some (.inl y), v)
  refine aw_iload_n (pc := 0) (q := 1) dX7_apply_0 rfl ?_
  refine aw_gets (pc := 1) (j := 8) dX7_apply_1 rfl fs_RX7_24 ?_
  refine aw_slen (pc := 4) (j := 8) (n := 6) dX7_apply_4 rfl rfl ⟨by decide, by decide⟩ ?_
  refine aw_icmp_gt (pc := 5) (tgt := 50) dX7_apply_5 (by decide) (fun hc => ?_) (fun hc => ?_)
  · rw [if_pos hc] at h
    refine aw_iload_n (pc := 50) (q := 1) dX7_apply_50 rfl ?_
    refine aw_bipush (pc := 51) dX7_apply_51 (by decide) ⟨by decide, by decide⟩ ?_
    refine aw_icmp_ne (pc := 53) (tgt := 81) dX7_apply_53 (by decide) (fun hc => ?_) (fun hc => ?_)
    · rw [if_neg hc] at h
      refine aw_iload_n (pc := 81) (q := 2) dX7_apply_81 rfl ?_
      refine aw_iconst (pc := 82) dX7_apply_82 ⟨by decide, by decide⟩ ?_
      refine aw_icmp_ge (pc := 83) (tgt := 88) dX7_apply_83 (by decide) (fun hc => ?_) (fun hc => ?_)
      · rw [if_pos hc] at h
        refine aw_aload_n (pc := 88) (q := 0) dX7_apply_88 rfl ?_
        refine aw_getf (pc := 89) (v := .inr (.inr 15)) dX7_apply_89 fl_RX7_21 (by decide) rfl rfl rfl ?_
        refine aw_iload_n (pc := 92) (q := 2) dX7_apply_92 rfl ?_
        refine aw_iconst (pc := 93) dX7_apply_93 ⟨by decide, by decide⟩ ?_
        refine aw_isub (pc := 94) dX7_apply_94 ?_
        refine aw_iload_n (pc := 95) (q := 1) dX7_apply_95 rfl ?_
        refine aw_aload_n (pc := 96) (q := 0) dX7_apply_96 rfl ?_
        refine aw_getf (pc := 97) (v := .inr (.inr 15)) dX7_apply_97 fl_RX7_21 (by decide) rfl rfl rfl ?_
        refine aw_iload_n (pc := 100) (q := 2) dX7_apply_100 rfl ?_
        refine aw_iconst (pc := 101) dX7_apply_101 ⟨by decide, by decide⟩ ?_
        refine aw_isub (pc := 102) dX7_apply_102 ?_
        obtain ⟨hb, h⟩ := aw_cks h
        refine aw_ialdv (pc := 103) (v := w 15 ((aw_w (x2 - 2)).toNat)) dX7_apply_103 rfl hb.1 hb.2 rfl ?_
        refine aw_aload_n (pc := 104) (q := 0) dX7_apply_104 rfl ?_
        refine aw_getf (pc := 105) (v := .inr (.inr 15)) dX7_apply_105 fl_RX7_21 (by decide) rfl rfl rfl ?_
        refine aw_iload_n (pc := 108) (q := 2) dX7_apply_108 rfl ?_
        refine aw_iconst (pc := 109) dX7_apply_109 ⟨by decide, by decide⟩ ?_
        refine aw_isub (pc := 110) dX7_apply_110 ?_
        obtain ⟨hb, h⟩ := aw_cks h
        refine aw_ialdv (pc := 111) (v := w 15 ((aw_w (x2 - 1)).toNat)) dX7_apply_111 rfl hb.1 hb.2 rfl ?_
        obtain ⟨r1, w1, h1, h⟩ := aw_b2s h
        refine aw_callS (pc := 112) (as := [.inl x1, .inl (w 15 ((aw_w (x2 - 2)).toNat)), .inl (w 15 ((aw_w (x2 - 1)).toNat))]) (st := [.inl (aw_w (x2 - 2)), .inr (.inr 15)]) (st' := [.inl r1, .inl (aw_w (x2 - 2)), .inr (.inr 15)]) dX7_apply_112 cs_RX7_100 rfl rfl (Nat.le_of_ble_eq_true rfl) (w_x_Rules_join N d (by omega) _ _ _ _ _ _ h1) rfl ?_
        obtain ⟨hb, h⟩ := aw_cks h
        refine aw_iast (pc := 115) dX7_apply_115 rfl hb.1 hb.2 ?_
        refine aw_iload_n (pc := 116) (q := 2) dX7_apply_116 rfl ?_
        refine aw_iconst (pc := 117) dX7_apply_117 ⟨by decide, by decide⟩ ?_
        refine aw_isub (pc := 118) dX7_apply_118 ?_
        cases h
        exact aw_iret (pc := 119) rfl dX7_apply_119
      · rw [if_neg hc] at h
        refine aw_iload_n (pc := 86) (q := 2) dX7_apply_86 rfl ?_
        cases h
        exact aw_iret (pc := 87) rfl dX7_apply_87
    · rw [if_pos hc] at h
      refine aw_iload_n (pc := 56) (q := 2) dX7_apply_56 rfl ?_
      refine aw_iconst (pc := 57) dX7_apply_57 ⟨by decide, by decide⟩ ?_
      refine aw_icmp_lt (pc := 58) (tgt := 79) dX7_apply_58 (by decide) (fun hc => ?_) (fun hc => ?_)
      · rw [if_pos hc] at h
        exact aw_sel [2] rfl (w_x_Rules_apply_79 N d hd  _ _ _ _ h)
      · rw [if_neg hc] at h
        refine aw_aload_n (pc := 61) (q := 0) dX7_apply_61 rfl ?_
        refine aw_getf (pc := 62) (v := .inr (.inr 15)) dX7_apply_62 fl_RX7_21 (by decide) rfl rfl rfl ?_
        refine aw_iload_n (pc := 65) (q := 2) dX7_apply_65 rfl ?_
        refine aw_iconst (pc := 66) dX7_apply_66 ⟨by decide, by decide⟩ ?_
        refine aw_isub (pc := 67) dX7_apply_67 ?_
        refine aw_iconst (pc := 68) dX7_apply_68 ⟨by decide, by decide⟩ ?_
        refine aw_aload_n (pc := 69) (q := 0) dX7_apply_69 rfl ?_
        refine aw_getf (pc := 70) (v := .inr (.inr 15)) dX7_apply_70 fl_RX7_21 (by decide) rfl rfl rfl ?_
        refine aw_iload_n (pc := 73) (q := 2) dX7_apply_73 rfl ?_
        refine aw_iconst (pc := 74) dX7_apply_74 ⟨by decide, by decide⟩ ?_
        refine aw_isub (pc := 75) dX7_apply_75 ?_
        obtain ⟨hb, h⟩ := aw_cks h
        refine aw_ialdv (pc := 76) (v := w 15 ((aw_w (x2 - 1)).toNat)) dX7_apply_76 rfl hb.1 hb.2 rfl ?_
        refine aw_isub (pc := 77) dX7_apply_77 ?_
        obtain ⟨hb, h⟩ := aw_cks h
        refine aw_iast (pc := 78) dX7_apply_78 rfl hb.1 hb.2 ?_
        exact aw_sel [2] rfl (w_x_Rules_apply_79 N d hd  _ _ _ _ h)
  · rw [if_neg hc] at h
    refine aw_iload_n (pc := 8) (q := 2) dX7_apply_8 rfl ?_
    refine aw_if_lt (pc := 9) (tgt := 21) dX7_apply_9 (by decide) (fun hc => ?_) (fun hc => ?_)
    · rw [if_pos hc] at h
      exact aw_sel [2] rfl (w_x_Rules_apply_21 N d hd  _ _ _ _ h)
    · rw [if_neg hc] at h
      refine aw_iload_n (pc := 12) (q := 2) dX7_apply_12 rfl ?_
      refine aw_aload_n (pc := 13) (q := 0) dX7_apply_13 rfl ?_
      refine aw_getf (pc := 14) (v := .inr (.inr 15)) dX7_apply_14 fl_RX7_21 (by decide) rfl rfl rfl ?_
      refine aw_alenv (pc := 17) (x := 64) dX7_apply_17 (by decide) rfl (by decide) rfl ⟨by decide, by decide⟩ ?_
      refine aw_icmp_lt (pc := 18) (tgt := 23) dX7_apply_18 (by decide) (fun hc => ?_) (fun hc => ?_)
      · rw [if_pos hc] at h
        refine aw_aload_n (pc := 23) (q := 0) dX7_apply_23 rfl ?_
        refine aw_getf (pc := 24) (v := .inr (.inr 15)) dX7_apply_24 fl_RX7_21 (by decide) rfl rfl rfl ?_
        refine aw_iload_n (pc := 27) (q := 2) dX7_apply_27 rfl ?_
        refine aw_iload_n (pc := 28) (q := 1) dX7_apply_28 rfl ?_
        refine aw_if_gt (pc := 29) (tgt := 37) dX7_apply_29 (by decide) (fun hc => ?_) (fun hc => ?_)
        · rw [if_pos hc] at h
          refine aw_aload_n (pc := 37) (q := 0) dX7_apply_37 rfl ?_
          refine aw_getf (pc := 38) (v := .inr (.inr 16)) dX7_apply_38 fl_RX7_27 (by decide) rfl rfl rfl ?_
          refine aw_iload_n (pc := 41) (q := 1) dX7_apply_41 rfl ?_
          refine aw_iconst (pc := 42) dX7_apply_42 ⟨by decide, by decide⟩ ?_
          refine aw_isub (pc := 43) dX7_apply_43 ?_
          obtain ⟨hb, h⟩ := aw_cks h
          refine aw_ialdv (pc := 44) (v := w 16 ((aw_w (x1 - 1)).toNat)) dX7_apply_44 rfl hb.1 hb.2 rfl ?_
          exact aw_sel [2] rfl (w_x_Rules_apply_45 N d hd  _ _ _ _ _ _ h)
        · rw [if_neg hc] at h
          refine aw_iload_n (pc := 32) (q := 1) dX7_apply_32 rfl ?_
          refine aw_ineg (pc := 33) dX7_apply_33 ?_
          refine aw_goto (pc := 34) (tgt := 45) dX7_apply_34 (by decide) ?_
          exact aw_sel [2] rfl (w_x_Rules_apply_45 N d hd  _ _ _ _ _ _ h)
      · rw [if_neg hc] at h
        exact aw_sel [2] rfl (w_x_Rules_apply_21 N d hd  _ _ _ _ h)
theorem w_x_Rules_apply {l : Launch} {K : aw_K} (N d : Nat) (hd : 1 ≤ d) : ∀ (x1 x2 : Int) (w : aw_W) (y : Int) (v : aw_W), x_Rules_apply N x1 x2 w = some (y, v) → aw_Met l K MX7_apply (d) [.inr (.inr 11), .inl x1, .inl x2] w (some (.inl y), v) := by
  obtain ⟨e, rfl⟩ : ∃ e, d = e + 1 := ⟨d - 1, by omega⟩
  exact w_x_Rules_apply_d N e (by omega)
theorem dX7_worth_0 : decode cX7_worth 0 = .ok (.aload_n 0, 1) := by decide +kernel
theorem dX7_worth_1 : decode cX7_worth 1 = .ok (.iload_n 1, 1) := by decide +kernel
theorem dX7_worth_2 : decode cX7_worth 2 = .ok (.invokevirtual 93, 3) := by decide +kernel
theorem dX7_worth_5 : decode cX7_worth 5 = .ok (.ifCond .ne 5, 3) := by decide +kernel
theorem dX7_worth_8 : decode cX7_worth 8 = .ok (.iconst 0, 1) := by decide +kernel
theorem dX7_worth_9 : decode cX7_worth 9 = .ok (.ireturn, 1) := by decide +kernel
theorem dX7_worth_10 : decode cX7_worth 10 = .ok (.iload_n 1, 1) := by decide +kernel
theorem dX7_worth_11 : decode cX7_worth 11 = .ok (.sipush 160, 3) := by decide +kernel
theorem dX7_worth_14 : decode cX7_worth 14 = .ok (.imul, 1) := by decide +kernel
theorem dX7_worth_15 : decode cX7_worth 15 = .ok (.istore_n 2, 1) := by decide +kernel
theorem dX7_worth_16 : decode cX7_worth 16 = .ok (.iconst 0, 1) := by decide +kernel
theorem dX7_worth_17 : decode cX7_worth 17 = .ok (.istore_n 3, 1) := by decide +kernel
theorem dX7_worth_18 : decode cX7_worth 18 = .ok (.iconst 0, 1) := by decide +kernel
theorem dX7_worth_19 : decode cX7_worth 19 = .ok (.istore 4, 2) := by decide +kernel
theorem dX7_worth_21 : decode cX7_worth 21 = .ok (.iconst 0, 1) := by decide +kernel
theorem dX7_worth_22 : decode cX7_worth 22 = .ok (.istore 5, 2) := by decide +kernel
theorem dX7_worth_24 : decode cX7_worth 24 = .ok (.iload 5, 2) := by decide +kernel
theorem dX7_worth_26 : decode cX7_worth 26 = .ok (.aload_n 0, 1) := by decide +kernel
theorem dX7_worth_27 : decode cX7_worth 27 = .ok (.getfield 15, 3) := by decide +kernel
theorem dX7_worth_30 : decode cX7_worth 30 = .ok (.iload_n 1, 1) := by decide +kernel
theorem dX7_worth_31 : decode cX7_worth 31 = .ok (.iaload, 1) := by decide +kernel
theorem dX7_worth_32 : decode cX7_worth 32 = .ok (.if_icmp .ge 87, 3) := by decide +kernel
theorem dX7_worth_35 : decode cX7_worth 35 = .ok (.aload_n 0, 1) := by decide +kernel
theorem dX7_worth_36 : decode cX7_worth 36 = .ok (.getfield 11, 3) := by decide +kernel
theorem dX7_worth_39 : decode cX7_worth 39 = .ok (.iload_n 2, 1) := by decide +kernel
theorem dX7_worth_40 : decode cX7_worth 40 = .ok (.iload 5, 2) := by decide +kernel
theorem dX7_worth_42 : decode cX7_worth 42 = .ok (.iadd, 1) := by decide +kernel
theorem dX7_worth_43 : decode cX7_worth 43 = .ok (.iaload, 1) := by decide +kernel
theorem dX7_worth_44 : decode cX7_worth 44 = .ok (.ineg, 1) := by decide +kernel
theorem dX7_worth_45 : decode cX7_worth 45 = .ok (.istore 6, 2) := by decide +kernel
theorem dX7_worth_47 : decode cX7_worth 47 = .ok (.iload 6, 2) := by decide +kernel
theorem dX7_worth_49 : decode cX7_worth 49 = .ok (.bipush 59, 2) := by decide +kernel
theorem dX7_worth_51 : decode cX7_worth 51 = .ok (.if_icmp .ne 21, 3) := by decide +kernel
theorem dX7_worth_54 : decode cX7_worth 54 = .ok (.iload 4, 2) := by decide +kernel
theorem dX7_worth_56 : decode cX7_worth 56 = .ok (.ifCond .ne 10, 3) := by decide +kernel
theorem dX7_worth_59 : decode cX7_worth 59 = .ok (.aload_n 0, 1) := by decide +kernel
theorem dX7_worth_60 : decode cX7_worth 60 = .ok (.getfield 21, 3) := by decide +kernel
theorem dX7_worth_63 : decode cX7_worth 63 = .ok (.iconst 0, 1) := by decide +kernel
theorem dX7_worth_64 : decode cX7_worth 64 = .ok (.iaload, 1) := by decide +kernel
theorem dX7_worth_65 : decode cX7_worth 65 = .ok (.ireturn, 1) := by decide +kernel
theorem dX7_worth_66 : decode cX7_worth 66 = .ok (.iconst 0, 1) := by decide +kernel
theorem dX7_worth_67 : decode cX7_worth 67 = .ok (.istore 4, 2) := by decide +kernel
theorem dX7_worth_69 : decode cX7_worth 69 = .ok (.goto 44, 3) := by decide +kernel
theorem dX7_worth_72 : decode cX7_worth 72 = .ok (.iload 6, 2) := by decide +kernel
theorem dX7_worth_74 : decode cX7_worth 74 = .ok (.bipush 63, 2) := by decide +kernel
theorem dX7_worth_76 : decode cX7_worth 76 = .ok (.if_icmp .ne 24, 3) := by decide +kernel
theorem dX7_worth_79 : decode cX7_worth 79 = .ok (.aload_n 0, 1) := by decide +kernel
theorem dX7_worth_80 : decode cX7_worth 80 = .ok (.getfield 21, 3) := by decide +kernel
theorem dX7_worth_83 : decode cX7_worth 83 = .ok (.iconst 0, 1) := by decide +kernel
theorem dX7_worth_84 : decode cX7_worth 84 = .ok (.iaload, 1) := by decide +kernel
theorem dX7_worth_85 : decode cX7_worth 85 = .ok (.ifCond .ne 7, 3) := by decide +kernel
theorem dX7_worth_88 : decode cX7_worth 88 = .ok (.iconst 1, 1) := by decide +kernel
theorem dX7_worth_89 : decode cX7_worth 89 = .ok (.goto 4, 3) := by decide +kernel
theorem dX7_worth_92 : decode cX7_worth 92 = .ok (.iconst 0, 1) := by decide +kernel
theorem dX7_worth_93 : decode cX7_worth 93 = .ok (.istore 4, 2) := by decide +kernel
theorem dX7_worth_95 : decode cX7_worth 95 = .ok (.iconst 0, 1) := by decide +kernel
theorem dX7_worth_96 : decode cX7_worth 96 = .ok (.istore_n 3, 1) := by decide +kernel
theorem dX7_worth_97 : decode cX7_worth 97 = .ok (.goto 16, 3) := by decide +kernel
theorem dX7_worth_100 : decode cX7_worth 100 = .ok (.iload 4, 2) := by decide +kernel
theorem dX7_worth_102 : decode cX7_worth 102 = .ok (.ifCond .ne 11, 3) := by decide +kernel
theorem dX7_worth_105 : decode cX7_worth 105 = .ok (.aload_n 0, 1) := by decide +kernel
theorem dX7_worth_106 : decode cX7_worth 106 = .ok (.iload 6, 2) := by decide +kernel
theorem dX7_worth_108 : decode cX7_worth 108 = .ok (.iload_n 3, 1) := by decide +kernel
theorem dX7_worth_109 : decode cX7_worth 109 = .ok (.invokevirtual 96, 3) := by decide +kernel
theorem dX7_worth_112 : decode cX7_worth 112 = .ok (.istore_n 3, 1) := by decide +kernel
theorem dX7_worth_113 : decode cX7_worth 113 = .ok (.iinc 5 1, 3) := by decide +kernel
theorem dX7_worth_116 : decode cX7_worth 116 = .ok (.goto (-92), 3) := by decide +kernel
theorem dX7_worth_119 : decode cX7_worth 119 = .ok (.iconst 0, 1) := by decide +kernel
theorem dX7_worth_120 : decode cX7_worth 120 = .ok (.ireturn, 1) := by decide +kernel
def x_Rules_worth_119 (N : Nat) (w : aw_W) : Option (Int × aw_W) :=
  some (0, w)
theorem w_x_Rules_worth_119 {l : Launch} {K : aw_K} (N d : Nat) (hd : 1 ≤ d) : ∀ (w : aw_W) (y : Int) (v : aw_W), x_Rules_worth_119 N w = some (y, v) → aw_AW l K MX7_worth (d + 1) 119 [] [] w (some (.inl y), v) := by
  intro w y v h
  unfold x_Rules_worth_119 at h
  refine aw_iconst (pc := 119) dX7_worth_119 ⟨by decide, by decide⟩ ?_
  cases h
  exact aw_iret (pc := 120) rfl dX7_worth_120
def x_Rules_worth_113 (N : Nat) (k24 : Int → Int → Int → Int → Int → aw_W → Option (Int × aw_W)) (x1 x2 x3 x4 x5 : Int) (w : aw_W) : Option (Int × aw_W) :=
  k24 x1 x2 x3 x4 (aw_w (x5 + 1)) w
theorem w_x_Rules_worth_113 {l : Launch} {K : aw_K} (N d : Nat) (hd : 1 ≤ d) (k24 : Int → Int → Int → Int → Int → aw_W → Option (Int × aw_W)) (hk24 : ∀ (x1 x2 x3 x4 x5 : Int) (w : aw_W) (y : Int) (v : aw_W), k24 x1 x2 x3 x4 x5 w = some (y, v) → aw_AW l K MX7_worth (d + 1) 24 [(0, .inr (.inr 11)), (1, .inl x1), (2, .inl x2), (3, .inl x3), (4, .inl x4), (5, .inl x5)] [] w (some (.inl y), v)) : ∀ (x1 x2 x3 x4 x5 : Int) (w : aw_W) (y : Int) (v : aw_W), x_Rules_worth_113 N k24 x1 x2 x3 x4 x5 w = some (y, v) → aw_AW l K MX7_worth (d + 1) 113 [(0, .inr (.inr 11)), (1, .inl x1), (2, .inl x2), (3, .inl x3), (4, .inl x4), (5, .inl x5)] [] w (some (.inl y), v) := by
  intro x1 x2 x3 x4 x5 w y v h
  unfold x_Rules_worth_113 at h
  refine aw_iinc (pc := 113) (q := 5) (ls' := [(5, .inl (aw_w (x5 + 1))), (0, .inr (.inr 11)), (1, .inl x1), (2, .inl x2), (3, .inl x3), (4, .inl x4)]) dX7_worth_113 rfl (by decide) rfl ?_
  refine aw_goto (pc := 116) (tgt := 24) dX7_worth_116 (by decide) ?_
  exact aw_sel [1, 2, 3, 4, 5, 0] rfl (hk24 _ _ _ _ _ _ _ _ h)
def x_Rules_worth_93 (N : Nat) (k24 : Int → Int → Int → Int → Int → aw_W → Option (Int × aw_W)) (x1 x2 x5 s0 : Int) (w : aw_W) : Option (Int × aw_W) :=
  x_Rules_worth_113 N k24 x1 x2 0 s0 x5 w
theorem w_x_Rules_worth_93 {l : Launch} {K : aw_K} (N d : Nat) (hd : 1 ≤ d) (k24 : Int → Int → Int → Int → Int → aw_W → Option (Int × aw_W)) (hk24 : ∀ (x1 x2 x3 x4 x5 : Int) (w : aw_W) (y : Int) (v : aw_W), k24 x1 x2 x3 x4 x5 w = some (y, v) → aw_AW l K MX7_worth (d + 1) 24 [(0, .inr (.inr 11)), (1, .inl x1), (2, .inl x2), (3, .inl x3), (4, .inl x4), (5, .inl x5)] [] w (some (.inl y), v)) : ∀ (x1 x2 x5 s0 : Int) (w : aw_W) (y : Int) (v : aw_W), x_Rules_worth_93 N k24 x1 x2 x5 s0 w = some (y, v) → aw_AW l K MX7_worth (d + 1) 93 [(0, .inr (.inr 11)), (1, .inl x1), (2, .inl x2), (5, .inl x5)] [.inl s0] w (some (.inl y), v) := by
  intro x1 x2 x5 s0 w y v h
  unfold x_Rules_worth_93 at h
  refine aw_istore (pc := 93) (ls' := [(4, .inl s0), (0, .inr (.inr 11)), (1, .inl x1), (2, .inl x2), (5, .inl x5)]) dX7_worth_93 (by decide) rfl ?_
  refine aw_iconst (pc := 95) dX7_worth_95 ⟨by decide, by decide⟩ ?_
  refine aw_istore_n (pc := 96) (ls' := [(3, .inl 0), (4, .inl s0), (0, .inr (.inr 11)), (1, .inl x1), (2, .inl x2), (5, .inl x5)]) dX7_worth_96 (by decide) rfl ?_
  refine aw_goto (pc := 97) (tgt := 113) dX7_worth_97 (by decide) ?_
  exact aw_sel [2, 3, 4, 0, 1, 5] rfl (w_x_Rules_worth_113 N d hd  _ hk24 _ _ _ _ _ _ _ _ h)
def x_Rules_worth_59 (N : Nat) (w : aw_W) : Option (Int × aw_W) :=
  some (w 15 0, w)
theorem w_x_Rules_worth_59 {l : Launch} {K : aw_K} (N d : Nat) (hd : 1 ≤ d) : ∀ (w : aw_W) (y : Int) (v : aw_W), x_Rules_worth_59 N w = some (y, v) → aw_AW l K MX7_worth (d + 1) 59 [(0, .inr (.inr 11))] [] w (some (.inl y), v) := by
  intro w y v h
  unfold x_Rules_worth_59 at h
  refine aw_aload_n (pc := 59) (q := 0) dX7_worth_59 rfl ?_
  refine aw_getf (pc := 60) (v := .inr (.inr 15)) dX7_worth_60 fl_RX7_21 (by decide) rfl rfl rfl ?_
  refine aw_iconst (pc := 63) dX7_worth_63 ⟨by decide, by decide⟩ ?_
  refine aw_ialdv (pc := 64) (v := w 15 0) dX7_worth_64 rfl (by decide) (by decide) rfl ?_
  cases h
  exact aw_iret (pc := 65) rfl dX7_worth_65
def x_Rules_worth_24 (N : Nat) : Nat → Int → Int → Int → Int → Int → aw_W → Option (Int × aw_W)
  | 0, _, _, _, _, _, _ => none
  | n + 1, x1, x2, x3, x4, x5, w =>
    if 0 ≤ x1 ∧ x1 < 4 then
      if (w 13 x1.toNat) ≤ x5 then
        x_Rules_worth_119 N w
      else
        if 0 ≤ (aw_w (x2 + x5)) ∧ (aw_w (x2 + x5)) < 640 then
          if (aw_w (-(w 12 ((aw_w (x2 + x5)).toNat)))) = 59 then
            if x4 = 0 then
              x_Rules_worth_59 N w
            else
              x_Rules_worth_113 N (x_Rules_worth_24 N n) x1 x2 x3 0 x5 w
          else
            if (aw_w (-(w 12 ((aw_w (x2 + x5)).toNat)))) = 63 then
              if (w 15 0) = 0 then
                x_Rules_worth_93 N (x_Rules_worth_24 N n) x1 x2 x5 1 w
              else
                x_Rules_worth_93 N (x_Rules_worth_24 N n) x1 x2 x5 0 w
            else
              if x4 = 0 then
                aw_b2 (x_Rules_apply N (aw_w (-(w 12 ((aw_w (x2 + x5)).toNat)))) x3 w) fun r1 w1 =>
                  x_Rules_worth_113 N (x_Rules_worth_24 N n) x1 x2 r1 x4 x5 w1
              else
                x_Rules_worth_113 N (x_Rules_worth_24 N n) x1 x2 x3 x4 x5 w
        else none
    else none
theorem w_x_Rules_worth_24 {l : Launch} {K : aw_K} (N d : Nat) (hd : 1 ≤ d) : ∀ (n : Nat) (x1 x2 x3 x4 x5 : Int) (w : aw_W) (y : Int) (v : aw_W), x_Rules_worth_24 N n x1 x2 x3 x4 x5 w = some (y, v) → aw_AW l K MX7_worth (d + 1) 24 [(0, .inr (.inr 11)), (1, .inl x1), (2, .inl x2), (3, .inl x3), (4, .inl x4), (5, .inl x5)] [] w (some (.inl y), v) := by
  intro n
  induction n with
  | zero => intro x1 x2 x3 x4 x5 w y v h; rw [x_Rules_worth_24] at h; cases h
  | succ n ih =>
    intro x1 x2 x3 x4 x5 w y v h
    rw [x_Rules_worth_24] at h
    refine aw_iload (pc := 24) (q := 5) dX7_worth_24 rfl ?_
    refine aw_aload_n (pc := 26) (q := 0) dX7_worth_26 rfl ?_
    refine aw_getf (pc := 27) (v := .inr (.inr 13)) dX7_worth_27 fl_RX7_15 (by decide) rfl rfl rfl ?_
    refine aw_iload_n (pc := 30) (q := 1) dX7_worth_30 rfl ?_
    obtain ⟨hb, h⟩ := aw_cks h
    refine aw_ialdv (pc := 31) (v := w 13 x1.toNat) dX7_worth_31 rfl hb.1 hb.2 rfl ?_
    refine aw_icmp_ge (pc := 32) (tgt := 119) dX7_worth_32 (by decide) (fun hc => ?_) (fun hc => ?_)
    · rw [if_pos hc] at h
      exact aw_sel [] rfl (w_x_Rules_worth_119 N d hd  _ _ _ h)
    · rw [if_neg hc] at h
      refine aw_aload_n (pc := 35) (q := 0) dX7_worth_35 rfl ?_
      refine aw_getf (pc := 36) (v := .inr (.inr 12)) dX7_worth_36 fl_RX7_11 (by decide) rfl rfl rfl ?_
      refine aw_iload_n (pc := 39) (q := 2) dX7_worth_39 rfl ?_
      refine aw_iload (pc := 40) (q := 5) dX7_worth_40 rfl ?_
      refine aw_iadd (pc := 42) dX7_worth_42 ?_
      obtain ⟨hb, h⟩ := aw_cks h
      refine aw_ialdv (pc := 43) (v := w 12 ((aw_w (x2 + x5)).toNat)) dX7_worth_43 rfl hb.1 hb.2 rfl ?_
      refine aw_ineg (pc := 44) dX7_worth_44 ?_
      refine aw_istore (pc := 45) (ls' := [(6, .inl (aw_w (-(w 12 ((aw_w (x2 + x5)).toNat))))), (0, .inr (.inr 11)), (1, .inl x1), (2, .inl x2), (3, .inl x3), (4, .inl x4), (5, .inl x5)]) dX7_worth_45 (by decide) rfl ?_
      refine aw_iload (pc := 47) (q := 0) dX7_worth_47 rfl ?_
      refine aw_bipush (pc := 49) dX7_worth_49 (by decide) ⟨by decide, by decide⟩ ?_
      refine aw_icmp_ne (pc := 51) (tgt := 72) dX7_worth_51 (by decide) (fun hc => ?_) (fun hc => ?_)
      · rw [if_neg hc] at h
        refine aw_iload (pc := 72) (q := 0) dX7_worth_72 rfl ?_
        refine aw_bipush (pc := 74) dX7_worth_74 (by decide) ⟨by decide, by decide⟩ ?_
        refine aw_icmp_ne (pc := 76) (tgt := 100) dX7_worth_76 (by decide) (fun hc => ?_) (fun hc => ?_)
        · rw [if_neg hc] at h
          refine aw_iload (pc := 100) (q := 5) dX7_worth_100 rfl ?_
          refine aw_if_ne (pc := 102) (tgt := 113) dX7_worth_102 (by decide) (fun hc => ?_) (fun hc => ?_)
          · rw [if_neg hc] at h
            exact aw_sel [1, 2, 3, 4, 5, 6] rfl (w_x_Rules_worth_113 N d hd  _ ih _ _ _ _ _ _ _ _ h)
          · rw [if_pos hc] at h
            refine aw_aload_n (pc := 105) (q := 1) dX7_worth_105 rfl ?_
            refine aw_iload (pc := 106) (q := 0) dX7_worth_106 rfl ?_
            refine aw_iload_n (pc := 108) (q := 4) dX7_worth_108 rfl ?_
            obtain ⟨r1, w1, h1, h⟩ := aw_b2s h
            refine aw_callV (pc := 109) (as := [.inl (aw_w (-(w 12 ((aw_w (x2 + x5)).toNat)))), .inl x3]) (st := []) (st' := [.inl r1]) dX7_worth_109 cv_RX7_96 (by decide) rfl rfl rfl rfl (Nat.le_of_ble_eq_true rfl) (w_x_Rules_apply N d (by omega) _ _ _ _ _ h1) rfl ?_
            refine aw_istore_n (pc := 112) (ls' := [(3, .inl r1), (6, .inl (aw_w (-(w 12 ((aw_w (x2 + x5)).toNat))))), (0, .inr (.inr 11)), (1, .inl x1), (2, .inl x2), (4, .inl x4), (5, .inl x5)]) dX7_worth_112 (by decide) rfl ?_
            exact aw_sel [2, 3, 4, 0, 5, 6] rfl (w_x_Rules_worth_113 N d hd  _ ih _ _ _ _ _ _ _ _ h)
        · rw [if_pos hc] at h
          refine aw_aload_n (pc := 79) (q := 1) dX7_worth_79 rfl ?_
          refine aw_getf (pc := 80) (v := .inr (.inr 15)) dX7_worth_80 fl_RX7_21 (by decide) rfl rfl rfl ?_
          refine aw_iconst (pc := 83) dX7_worth_83 ⟨by decide, by decide⟩ ?_
          refine aw_ialdv (pc := 84) (v := w 15 0) dX7_worth_84 rfl (by decide) (by decide) rfl ?_
          refine aw_if_ne (pc := 85) (tgt := 92) dX7_worth_85 (by decide) (fun hc => ?_) (fun hc => ?_)
          · rw [if_neg hc] at h
            refine aw_iconst (pc := 92) dX7_worth_92 ⟨by decide, by decide⟩ ?_
            exact aw_sel [1, 2, 3, 6] rfl (w_x_Rules_worth_93 N d hd  _ ih _ _ _ _ _ _ _ h)
          · rw [if_pos hc] at h
            refine aw_iconst (pc := 88) dX7_worth_88 ⟨by decide, by decide⟩ ?_
            refine aw_goto (pc := 89) (tgt := 93) dX7_worth_89 (by decide) ?_
            exact aw_sel [1, 2, 3, 6] rfl (w_x_Rules_worth_93 N d hd  _ ih _ _ _ _ _ _ _ h)
      · rw [if_pos hc] at h
        refine aw_iload (pc := 54) (q := 5) dX7_worth_54 rfl ?_
        refine aw_if_ne (pc := 56) (tgt := 66) dX7_worth_56 (by decide) (fun hc => ?_) (fun hc => ?_)
        · rw [if_neg hc] at h
          refine aw_iconst (pc := 66) dX7_worth_66 ⟨by decide, by decide⟩ ?_
          refine aw_istore (pc := 67) (ls' := [(4, .inl 0), (6, .inl (aw_w (-(w 12 ((aw_w (x2 + x5)).toNat))))), (0, .inr (.inr 11)), (1, .inl x1), (2, .inl x2), (3, .inl x3), (5, .inl x5)]) dX7_worth_67 (by decide) rfl ?_
          refine aw_goto (pc := 69) (tgt := 113) dX7_worth_69 (by decide) ?_
          exact aw_sel [2, 3, 4, 5, 0, 6] rfl (w_x_Rules_worth_113 N d hd  _ ih _ _ _ _ _ _ _ _ h)
        · rw [if_pos hc] at h
          exact aw_sel [1] rfl (w_x_Rules_worth_59 N d hd  _ _ _ h)
def x_Rules_worth (N : Nat) (x1 : Int) (w : aw_W) : Option (Int × aw_W) :=
  aw_b2 (x_Rules_holds N x1 w) fun r1 w1 =>
    if r1 = 0 then
      some (0, w1)
    else
      x_Rules_worth_24 N N x1 (aw_w (x1 * 160)) 0 0 0 w1
theorem w_x_Rules_worth_d {l : Launch} {K : aw_K} (N d : Nat) (hd : 1 ≤ d) : ∀ (x1 : Int) (w : aw_W) (y : Int) (v : aw_W), x_Rules_worth N x1 w = some (y, v) → aw_Met l K MX7_worth (d + 1) [.inr (.inr 11), .inl x1] w (some (.inl y), v) := by
  intro x1 w y v h
  unfold x_Rules_worth at h
  refine aw_enter rfl (Nat.le_of_ble_eq_true rfl) ?_
  show aw_AW l K MX7_worth (d + 1) 0 [(0, .inr (.inr 11)), (1, .inl x1)] [] w (some (.inl y), v)
  refine aw_aload_n (pc := 0) (q := 0) dX7_worth_0 rfl ?_
  refine aw_iload_n (pc := 1) (q := 1) dX7_worth_1 rfl ?_
  obtain ⟨r1, w1, h1, h⟩ := aw_b2s h
  refine aw_callV (pc := 2) (as := [.inl x1]) (st := []) (st' := [.inl r1]) dX7_worth_2 cv_RX7_93 (by decide) rfl rfl rfl rfl (Nat.le_of_ble_eq_true rfl) (w_x_Rules_holds N d (by omega) _ _ _ _ h1) rfl ?_
  refine aw_if_ne (pc := 5) (tgt := 10) dX7_worth_5 (by decide) (fun hc => ?_) (fun hc => ?_)
  · rw [if_neg hc] at h
    refine aw_iload_n (pc := 10) (q := 1) dX7_worth_10 rfl ?_
    refine aw_sipush (pc := 11) dX7_worth_11 (by decide) ⟨by decide, by decide⟩ ?_
    refine aw_imul (pc := 14) dX7_worth_14 ?_
    refine aw_istore_n (pc := 15) (ls' := [(2, .inl (aw_w (x1 * 160))), (0, .inr (.inr 11)), (1, .inl x1)]) dX7_worth_15 (by decide) rfl ?_
    refine aw_iconst (pc := 16) dX7_worth_16 ⟨by decide, by decide⟩ ?_
    refine aw_istore_n (pc := 17) (ls' := [(3, .inl 0), (2, .inl (aw_w (x1 * 160))), (0, .inr (.inr 11)), (1, .inl x1)]) dX7_worth_17 (by decide) rfl ?_
    refine aw_iconst (pc := 18) dX7_worth_18 ⟨by decide, by decide⟩ ?_
    refine aw_istore (pc := 19) (ls' := [(4, .inl 0), (3, .inl 0), (2, .inl (aw_w (x1 * 160))), (0, .inr (.inr 11)), (1, .inl x1)]) dX7_worth_19 (by decide) rfl ?_
    refine aw_iconst (pc := 21) dX7_worth_21 ⟨by decide, by decide⟩ ?_
    refine aw_istore (pc := 22) (ls' := [(5, .inl 0), (4, .inl 0), (3, .inl 0), (2, .inl (aw_w (x1 * 160))), (0, .inr (.inr 11)), (1, .inl x1)]) dX7_worth_22 (by decide) rfl ?_
    exact aw_sel [4, 5, 3, 2, 1, 0] rfl (w_x_Rules_worth_24 N d hd  N _ _ _ _ _ _ _ _ h)
  · rw [if_pos hc] at h
    refine aw_iconst (pc := 8) dX7_worth_8 ⟨by decide, by decide⟩ ?_
    cases h
    exact aw_iret (pc := 9) rfl dX7_worth_9
theorem w_x_Rules_worth {l : Launch} {K : aw_K} (N d : Nat) (hd : 2 ≤ d) : ∀ (x1 : Int) (w : aw_W) (y : Int) (v : aw_W), x_Rules_worth N x1 w = some (y, v) → aw_Met l K MX7_worth (d) [.inr (.inr 11), .inl x1] w (some (.inl y), v) := by
  obtain ⟨e, rfl⟩ : ∃ e, d = e + 1 := ⟨d - 1, by omega⟩
  exact w_x_Rules_worth_d N e (by omega)
theorem dX3_stepsOf_0 : decode cX3_stepsOf 0 = .ok (.iconst 0, 1) := by decide +kernel
theorem dX3_stepsOf_1 : decode cX3_stepsOf 1 = .ok (.istore 5, 2) := by decide +kernel
theorem dX3_stepsOf_3 : decode cX3_stepsOf 3 = .ok (.iconst 0, 1) := by decide +kernel
theorem dX3_stepsOf_4 : decode cX3_stepsOf 4 = .ok (.istore 6, 2) := by decide +kernel
theorem dX3_stepsOf_6 : decode cX3_stepsOf 6 = .ok (.iconst 0, 1) := by decide +kernel
theorem dX3_stepsOf_7 : decode cX3_stepsOf 7 = .ok (.istore 7, 2) := by decide +kernel
theorem dX3_stepsOf_9 : decode cX3_stepsOf 9 = .ok (.iload 7, 2) := by decide +kernel
theorem dX3_stepsOf_11 : decode cX3_stepsOf 11 = .ok (.aload_n 0, 1) := by decide +kernel
theorem dX3_stepsOf_12 : decode cX3_stepsOf 12 = .ok (.getfield 31, 3) := by decide +kernel
theorem dX3_stepsOf_15 : decode cX3_stepsOf 15 = .ok (.getfield 61, 3) := by decide +kernel
theorem dX3_stepsOf_18 : decode cX3_stepsOf 18 = .ok (.if_icmp .ge 50, 3) := by decide +kernel
theorem dX3_stepsOf_21 : decode cX3_stepsOf 21 = .ok (.aload_n 0, 1) := by decide +kernel
theorem dX3_stepsOf_22 : decode cX3_stepsOf 22 = .ok (.getfield 22, 3) := by decide +kernel
theorem dX3_stepsOf_25 : decode cX3_stepsOf 25 = .ok (.iload 7, 2) := by decide +kernel
theorem dX3_stepsOf_27 : decode cX3_stepsOf 27 = .ok (.iaload, 1) := by decide +kernel
theorem dX3_stepsOf_28 : decode cX3_stepsOf 28 = .ok (.aload_n 0, 1) := by decide +kernel
theorem dX3_stepsOf_29 : decode cX3_stepsOf 29 = .ok (.getfield 22, 3) := by decide +kernel
theorem dX3_stepsOf_32 : decode cX3_stepsOf 32 = .ok (.iload_n 1, 1) := by decide +kernel
theorem dX3_stepsOf_33 : decode cX3_stepsOf 33 = .ok (.iaload, 1) := by decide +kernel
theorem dX3_stepsOf_34 : decode cX3_stepsOf 34 = .ok (.if_icmp .le 9, 3) := by decide +kernel
theorem dX3_stepsOf_37 : decode cX3_stepsOf 37 = .ok (.iinc 5 1, 3) := by decide +kernel
theorem dX3_stepsOf_40 : decode cX3_stepsOf 40 = .ok (.goto 22, 3) := by decide +kernel
theorem dX3_stepsOf_43 : decode cX3_stepsOf 43 = .ok (.aload_n 0, 1) := by decide +kernel
theorem dX3_stepsOf_44 : decode cX3_stepsOf 44 = .ok (.getfield 22, 3) := by decide +kernel
theorem dX3_stepsOf_47 : decode cX3_stepsOf 47 = .ok (.iload 7, 2) := by decide +kernel
theorem dX3_stepsOf_49 : decode cX3_stepsOf 49 = .ok (.iaload, 1) := by decide +kernel
theorem dX3_stepsOf_50 : decode cX3_stepsOf 50 = .ok (.aload_n 0, 1) := by decide +kernel
theorem dX3_stepsOf_51 : decode cX3_stepsOf 51 = .ok (.getfield 22, 3) := by decide +kernel
theorem dX3_stepsOf_54 : decode cX3_stepsOf 54 = .ok (.iload_n 1, 1) := by decide +kernel
theorem dX3_stepsOf_55 : decode cX3_stepsOf 55 = .ok (.iaload, 1) := by decide +kernel
theorem dX3_stepsOf_56 : decode cX3_stepsOf 56 = .ok (.if_icmp .ge 6, 3) := by decide +kernel
theorem dX3_stepsOf_59 : decode cX3_stepsOf 59 = .ok (.iinc 6 1, 3) := by decide +kernel
theorem dX3_stepsOf_62 : decode cX3_stepsOf 62 = .ok (.iinc 7 1, 3) := by decide +kernel
theorem dX3_stepsOf_65 : decode cX3_stepsOf 65 = .ok (.goto (-56), 3) := by decide +kernel
theorem dX3_stepsOf_68 : decode cX3_stepsOf 68 = .ok (.aload_n 0, 1) := by decide +kernel
theorem dX3_stepsOf_69 : decode cX3_stepsOf 69 = .ok (.getfield 35, 3) := by decide +kernel
theorem dX3_stepsOf_72 : decode cX3_stepsOf 72 = .ok (.getfield 72, 3) := by decide +kernel
theorem dX3_stepsOf_75 : decode cX3_stepsOf 75 = .ok (.astore 7, 2) := by decide +kernel
theorem dX3_stepsOf_77 : decode cX3_stepsOf 77 = .ok (.aload 7, 2) := by decide +kernel
theorem dX3_stepsOf_79 : decode cX3_stepsOf 79 = .ok (.iconst 0, 1) := by decide +kernel
theorem dX3_stepsOf_80 : decode cX3_stepsOf 80 = .ok (.iload_n 2, 1) := by decide +kernel
theorem dX3_stepsOf_81 : decode cX3_stepsOf 81 = .ok (.aload_n 0, 1) := by decide +kernel
theorem dX3_stepsOf_82 : decode cX3_stepsOf 82 = .ok (.getfield 22, 3) := by decide +kernel
theorem dX3_stepsOf_85 : decode cX3_stepsOf 85 = .ok (.iload_n 1, 1) := by decide +kernel
theorem dX3_stepsOf_86 : decode cX3_stepsOf 86 = .ok (.iaload, 1) := by decide +kernel
theorem dX3_stepsOf_87 : decode cX3_stepsOf 87 = .ok (.isub, 1) := by decide +kernel
theorem dX3_stepsOf_88 : decode cX3_stepsOf 88 = .ok (.iastore, 1) := by decide +kernel
theorem dX3_stepsOf_89 : decode cX3_stepsOf 89 = .ok (.aload 7, 2) := by decide +kernel
theorem dX3_stepsOf_91 : decode cX3_stepsOf 91 = .ok (.iconst 1, 1) := by decide +kernel
theorem dX3_stepsOf_92 : decode cX3_stepsOf 92 = .ok (.iload 5, 2) := by decide +kernel
theorem dX3_stepsOf_94 : decode cX3_stepsOf 94 = .ok (.iastore, 1) := by decide +kernel
theorem dX3_stepsOf_95 : decode cX3_stepsOf 95 = .ok (.aload 7, 2) := by decide +kernel
theorem dX3_stepsOf_97 : decode cX3_stepsOf 97 = .ok (.iconst 2, 1) := by decide +kernel
theorem dX3_stepsOf_98 : decode cX3_stepsOf 98 = .ok (.iload 6, 2) := by decide +kernel
theorem dX3_stepsOf_100 : decode cX3_stepsOf 100 = .ok (.iastore, 1) := by decide +kernel
theorem dX3_stepsOf_101 : decode cX3_stepsOf 101 = .ok (.aload 7, 2) := by decide +kernel
theorem dX3_stepsOf_103 : decode cX3_stepsOf 103 = .ok (.iconst 3, 1) := by decide +kernel
theorem dX3_stepsOf_104 : decode cX3_stepsOf 104 = .ok (.aload_n 0, 1) := by decide +kernel
theorem dX3_stepsOf_105 : decode cX3_stepsOf 105 = .ok (.getfield 54, 3) := by decide +kernel
theorem dX3_stepsOf_108 : decode cX3_stepsOf 108 = .ok (.iastore, 1) := by decide +kernel
theorem dX3_stepsOf_109 : decode cX3_stepsOf 109 = .ok (.aload 7, 2) := by decide +kernel
theorem dX3_stepsOf_111 : decode cX3_stepsOf 111 = .ok (.iconst 4, 1) := by decide +kernel
theorem dX3_stepsOf_112 : decode cX3_stepsOf 112 = .ok (.iload_n 3, 1) := by decide +kernel
theorem dX3_stepsOf_113 : decode cX3_stepsOf 113 = .ok (.iload 4, 2) := by decide +kernel
theorem dX3_stepsOf_115 : decode cX3_stepsOf 115 = .ok (.isub, 1) := by decide +kernel
theorem dX3_stepsOf_116 : decode cX3_stepsOf 116 = .ok (.iastore, 1) := by decide +kernel
theorem dX3_stepsOf_117 : decode cX3_stepsOf 117 = .ok (.aload 7, 2) := by decide +kernel
theorem dX3_stepsOf_119 : decode cX3_stepsOf 119 = .ok (.iconst 5, 1) := by decide +kernel
theorem dX3_stepsOf_120 : decode cX3_stepsOf 120 = .ok (.iload 4, 2) := by decide +kernel
theorem dX3_stepsOf_122 : decode cX3_stepsOf 122 = .ok (.iastore, 1) := by decide +kernel
theorem dX3_stepsOf_123 : decode cX3_stepsOf 123 = .ok (.iconst 0, 1) := by decide +kernel
theorem dX3_stepsOf_124 : decode cX3_stepsOf 124 = .ok (.aload_n 0, 1) := by decide +kernel
theorem dX3_stepsOf_125 : decode cX3_stepsOf 125 = .ok (.getfield 31, 3) := by decide +kernel
theorem dX3_stepsOf_128 : decode cX3_stepsOf 128 = .ok (.iload_n 1, 1) := by decide +kernel
theorem dX3_stepsOf_129 : decode cX3_stepsOf 129 = .ok (.iconst 0, 1) := by decide +kernel
theorem dX3_stepsOf_130 : decode cX3_stepsOf 130 = .ok (.invokevirtual 77, 3) := by decide +kernel
theorem dX3_stepsOf_133 : decode cX3_stepsOf 133 = .ok (.aload_n 0, 1) := by decide +kernel
theorem dX3_stepsOf_134 : decode cX3_stepsOf 134 = .ok (.getfield 35, 3) := by decide +kernel
theorem dX3_stepsOf_137 : decode cX3_stepsOf 137 = .ok (.aload_n 0, 1) := by decide +kernel
theorem dX3_stepsOf_138 : decode cX3_stepsOf 138 = .ok (.getfield 18, 3) := by decide +kernel
theorem dX3_stepsOf_141 : decode cX3_stepsOf 141 = .ok (.iload_n 1, 1) := by decide +kernel
theorem dX3_stepsOf_142 : decode cX3_stepsOf 142 = .ok (.iaload, 1) := by decide +kernel
theorem dX3_stepsOf_143 : decode cX3_stepsOf 143 = .ok (.invokevirtual 81, 3) := by decide +kernel
theorem dX3_stepsOf_146 : decode cX3_stepsOf 146 = .ok (.invokestatic 85, 3) := by decide +kernel
theorem dX3_stepsOf_149 : decode cX3_stepsOf 149 = .ok (.invokestatic 90, 3) := by decide +kernel
theorem dX3_stepsOf_152 : decode cX3_stepsOf 152 = .ok (.ireturn, 1) := by decide +kernel
def x_Race_stepsOf_68 (N : Nat) (x1 x2 x3 x4 x5 x6 : Int) (w : aw_W) : Option (Int × aw_W) :=
  if 0 ≤ x1 ∧ x1 < 6 then
    aw_b2 (x_Land_item N x1 0 (aw_up (aw_up (aw_up (aw_up (aw_up (aw_up w 16 0 (aw_w (x2 - (w 31 x1.toNat)))) 16 1 x5) 16 2 x6) 16 3 (w 26 7)) 16 4 (aw_w (x3 - x4))) 16 5 x4)) fun r1 w1 =>
      if 0 ≤ x1 ∧ x1 < 6 then
        aw_b2 (x_Rules_worth N (w1 30 x1.toNat) w1) fun r2 w2 =>
          some (aw_mx 0 (aw_mn r1 r2), w2)
      else none
  else none
theorem w_x_Race_stepsOf_68 {l : Launch} {K : aw_K} (N d : Nat) (hd : 2 ≤ d) : ∀ (x1 x2 x3 x4 x5 x6 : Int) (w : aw_W) (y : Int) (v : aw_W), x_Race_stepsOf_68 N x1 x2 x3 x4 x5 x6 w = some (y, v) → aw_AW l K MX3_stepsOf (d + 1) 68 [(0, .inr (.inr 26)), (1, .inl x1), (2, .inl x2), (3, .inl x3), (4, .inl x4), (5, .inl x5), (6, .inl x6)] [] w (some (.inl y), v) := by
  intro x1 x2 x3 x4 x5 x6 w y v h
  unfold x_Race_stepsOf_68 at h
  refine aw_aload_n (pc := 68) (q := 0) dX3_stepsOf_68 rfl ?_
  refine aw_getf (pc := 69) (v := .inr (.inr 11)) dX3_stepsOf_69 fl_RX3_35 (by decide) rfl rfl rfl ?_
  refine aw_getf (pc := 72) (v := .inr (.inr 16)) dX3_stepsOf_72 fl_RX3_72 (by decide) rfl rfl rfl ?_
  refine aw_astore (pc := 75) (ls' := [(7, .inr (.inr 16)), (0, .inr (.inr 26)), (1, .inl x1), (2, .inl x2), (3, .inl x3), (4, .inl x4), (5, .inl x5), (6, .inl x6)]) dX3_stepsOf_75 (by decide) rfl ?_
  refine aw_aload (pc := 77) (q := 0) dX3_stepsOf_77 rfl ?_
  refine aw_iconst (pc := 79) dX3_stepsOf_79 ⟨by decide, by decide⟩ ?_
  refine aw_iload_n (pc := 80) (q := 3) dX3_stepsOf_80 rfl ?_
  refine aw_aload_n (pc := 81) (q := 1) dX3_stepsOf_81 rfl ?_
  refine aw_getf (pc := 82) (v := .inr (.inr 31)) dX3_stepsOf_82 fl_RX3_22 (by decide) rfl rfl rfl ?_
  refine aw_iload_n (pc := 85) (q := 2) dX3_stepsOf_85 rfl ?_
  obtain ⟨hb, h⟩ := aw_cks h
  refine aw_ialdv (pc := 86) (v := w 31 x1.toNat) dX3_stepsOf_86 rfl hb.1 hb.2 rfl ?_
  refine aw_isub (pc := 87) dX3_stepsOf_87 ?_
  refine aw_iast (pc := 88) dX3_stepsOf_88 rfl (by decide) (by decide) ?_
  refine aw_aload (pc := 89) (q := 0) dX3_stepsOf_89 rfl ?_
  refine aw_iconst (pc := 91) dX3_stepsOf_91 ⟨by decide, by decide⟩ ?_
  refine aw_iload (pc := 92) (q := 6) dX3_stepsOf_92 rfl ?_
  refine aw_iast (pc := 94) dX3_stepsOf_94 rfl (by decide) (by decide) ?_
  refine aw_aload (pc := 95) (q := 0) dX3_stepsOf_95 rfl ?_
  refine aw_iconst (pc := 97) dX3_stepsOf_97 ⟨by decide, by decide⟩ ?_
  refine aw_iload (pc := 98) (q := 7) dX3_stepsOf_98 rfl ?_
  refine aw_iast (pc := 100) dX3_stepsOf_100 rfl (by decide) (by decide) ?_
  refine aw_aload (pc := 101) (q := 0) dX3_stepsOf_101 rfl ?_
  refine aw_iconst (pc := 103) dX3_stepsOf_103 ⟨by decide, by decide⟩ ?_
  refine aw_aload_n (pc := 104) (q := 1) dX3_stepsOf_104 rfl ?_
  refine aw_getf (pc := 105) (v := .inl (w 26 7)) dX3_stepsOf_105 fl_RX3_54 (by decide) rfl rfl rfl ?_
  refine aw_iast (pc := 108) dX3_stepsOf_108 rfl (by decide) (by decide) ?_
  refine aw_aload (pc := 109) (q := 0) dX3_stepsOf_109 rfl ?_
  refine aw_iconst (pc := 111) dX3_stepsOf_111 ⟨by decide, by decide⟩ ?_
  refine aw_iload_n (pc := 112) (q := 4) dX3_stepsOf_112 rfl ?_
  refine aw_iload (pc := 113) (q := 5) dX3_stepsOf_113 rfl ?_
  refine aw_isub (pc := 115) dX3_stepsOf_115 ?_
  refine aw_iast (pc := 116) dX3_stepsOf_116 rfl (by decide) (by decide) ?_
  refine aw_aload (pc := 117) (q := 0) dX3_stepsOf_117 rfl ?_
  refine aw_iconst (pc := 119) dX3_stepsOf_119 ⟨by decide, by decide⟩ ?_
  refine aw_iload (pc := 120) (q := 5) dX3_stepsOf_120 rfl ?_
  refine aw_iast (pc := 122) dX3_stepsOf_122 rfl (by decide) (by decide) ?_
  refine aw_iconst (pc := 123) dX3_stepsOf_123 ⟨by decide, by decide⟩ ?_
  refine aw_aload_n (pc := 124) (q := 1) dX3_stepsOf_124 rfl ?_
  refine aw_getf (pc := 125) (v := .inr (.inr 3)) dX3_stepsOf_125 fl_RX3_31 (by decide) rfl rfl rfl ?_
  refine aw_iload_n (pc := 128) (q := 2) dX3_stepsOf_128 rfl ?_
  refine aw_iconst (pc := 129) dX3_stepsOf_129 ⟨by decide, by decide⟩ ?_
  obtain ⟨r1, w1, h1, h⟩ := aw_b2s h
  refine aw_callV (pc := 130) (as := [.inl x1, .inl 0]) (st := [.inl 0]) (st' := [.inl r1, .inl 0]) dX3_stepsOf_130 cv_RX3_77 (by decide) rfl rfl rfl rfl (Nat.le_of_ble_eq_true rfl) (w_x_Land_item N d (by omega) _ _ _ _ _ h1) rfl ?_
  refine aw_aload_n (pc := 133) (q := 1) dX3_stepsOf_133 rfl ?_
  refine aw_getf (pc := 134) (v := .inr (.inr 11)) dX3_stepsOf_134 fl_RX3_35 (by decide) rfl rfl rfl ?_
  refine aw_aload_n (pc := 137) (q := 1) dX3_stepsOf_137 rfl ?_
  refine aw_getf (pc := 138) (v := .inr (.inr 30)) dX3_stepsOf_138 fl_RX3_18 (by decide) rfl rfl rfl ?_
  refine aw_iload_n (pc := 141) (q := 2) dX3_stepsOf_141 rfl ?_
  obtain ⟨hb, h⟩ := aw_cks h
  refine aw_ialdv (pc := 142) (v := w1 30 x1.toNat) dX3_stepsOf_142 rfl hb.1 hb.2 rfl ?_
  obtain ⟨r2, w2, h2, h⟩ := aw_b2s h
  refine aw_callV (pc := 143) (as := [.inl (w1 30 x1.toNat)]) (st := [.inl r1, .inl 0]) (st' := [.inl r2, .inl r1, .inl 0]) dX3_stepsOf_143 cv_RX3_81 (by decide) rfl rfl rfl rfl (Nat.le_of_ble_eq_true rfl) (w_x_Rules_worth N d (by omega) _ _ _ _ h2) rfl ?_
  refine aw_mmin (pc := 146) dX3_stepsOf_146 cm_RX3_85 (Nat.le_of_ble_eq_true rfl) ?_
  refine aw_mmax (pc := 149) dX3_stepsOf_149 cm_RX3_90 (Nat.le_of_ble_eq_true rfl) ?_
  cases h
  exact aw_iret (pc := 152) rfl dX3_stepsOf_152
def x_Race_stepsOf_62 (N : Nat) (k9 : Int → Int → Int → Int → Int → Int → Int → aw_W → Option (Int × aw_W)) (x1 x2 x3 x4 x5 x6 x7 : Int) (w : aw_W) : Option (Int × aw_W) :=
  k9 x1 x2 x3 x4 x5 x6 (aw_w (x7 + 1)) w
theorem w_x_Race_stepsOf_62 {l : Launch} {K : aw_K} (N d : Nat) (hd : 2 ≤ d) (k9 : Int → Int → Int → Int → Int → Int → Int → aw_W → Option (Int × aw_W)) (hk9 : ∀ (x1 x2 x3 x4 x5 x6 x7 : Int) (w : aw_W) (y : Int) (v : aw_W), k9 x1 x2 x3 x4 x5 x6 x7 w = some (y, v) → aw_AW l K MX3_stepsOf (d + 1) 9 [(0, .inr (.inr 26)), (1, .inl x1), (2, .inl x2), (3, .inl x3), (4, .inl x4), (5, .inl x5), (6, .inl x6), (7, .inl x7)] [] w (some (.inl y), v)) : ∀ (x1 x2 x3 x4 x5 x6 x7 : Int) (w : aw_W) (y : Int) (v : aw_W), x_Race_stepsOf_62 N k9 x1 x2 x3 x4 x5 x6 x7 w = some (y, v) → aw_AW l K MX3_stepsOf (d + 1) 62 [(0, .inr (.inr 26)), (1, .inl x1), (2, .inl x2), (3, .inl x3), (4, .inl x4), (5, .inl x5), (6, .inl x6), (7, .inl x7)] [] w (some (.inl y), v) := by
  intro x1 x2 x3 x4 x5 x6 x7 w y v h
  unfold x_Race_stepsOf_62 at h
  refine aw_iinc (pc := 62) (q := 7) (ls' := [(7, .inl (aw_w (x7 + 1))), (0, .inr (.inr 26)), (1, .inl x1), (2, .inl x2), (3, .inl x3), (4, .inl x4), (5, .inl x5), (6, .inl x6)]) dX3_stepsOf_62 rfl (by decide) rfl ?_
  refine aw_goto (pc := 65) (tgt := 9) dX3_stepsOf_65 (by decide) ?_
  exact aw_sel [1, 2, 3, 4, 5, 6, 7, 0] rfl (hk9 _ _ _ _ _ _ _ _ _ _ h)
def x_Race_stepsOf_9 (N : Nat) : Nat → Int → Int → Int → Int → Int → Int → Int → aw_W → Option (Int × aw_W)
  | 0, _, _, _, _, _, _, _, _ => none
  | n + 1, x1, x2, x3, x4, x5, x6, x7, w =>
    if (w 3 4) ≤ x7 then
      x_Race_stepsOf_68 N x1 x2 x3 x4 x5 x6 w
    else
      if 0 ≤ x7 ∧ x7 < 6 then
        if 0 ≤ x1 ∧ x1 < 6 then
          if (w 31 x7.toNat) ≤ (w 31 x1.toNat) then
            if 0 ≤ x7 ∧ x7 < 6 then
              if 0 ≤ x1 ∧ x1 < 6 then
                if (w 31 x1.toNat) ≤ (w 31 x7.toNat) then
                  x_Race_stepsOf_62 N (x_Race_stepsOf_9 N n) x1 x2 x3 x4 x5 x6 x7 w
                else
                  x_Race_stepsOf_62 N (x_Race_stepsOf_9 N n) x1 x2 x3 x4 x5 (aw_w (x6 + 1)) x7 w
              else none
            else none
          else
            x_Race_stepsOf_62 N (x_Race_stepsOf_9 N n) x1 x2 x3 x4 (aw_w (x5 + 1)) x6 x7 w
        else none
      else none
theorem w_x_Race_stepsOf_9 {l : Launch} {K : aw_K} (N d : Nat) (hd : 2 ≤ d) : ∀ (n : Nat) (x1 x2 x3 x4 x5 x6 x7 : Int) (w : aw_W) (y : Int) (v : aw_W), x_Race_stepsOf_9 N n x1 x2 x3 x4 x5 x6 x7 w = some (y, v) → aw_AW l K MX3_stepsOf (d + 1) 9 [(0, .inr (.inr 26)), (1, .inl x1), (2, .inl x2), (3, .inl x3), (4, .inl x4), (5, .inl x5), (6, .inl x6), (7, .inl x7)] [] w (some (.inl y), v) := by
  intro n
  induction n with
  | zero => intro x1 x2 x3 x4 x5 x6 x7 w y v h; rw [x_Race_stepsOf_9] at h; cases h
  | succ n ih =>
    intro x1 x2 x3 x4 x5 x6 x7 w y v h
    rw [x_Race_stepsOf_9] at h
    refine aw_iload (pc := 9) (q := 7) dX3_stepsOf_9 rfl ?_
    refine aw_aload_n (pc := 11) (q := 0) dX3_stepsOf_11 rfl ?_
    refine aw_getf (pc := 12) (v := .inr (.inr 3)) dX3_stepsOf_12 fl_RX3_31 (by decide) rfl rfl rfl ?_
    refine aw_getf (pc := 15) (v := .inl (w 3 4)) dX3_stepsOf_15 fl_RX3_61 (by decide) rfl rfl rfl ?_
    refine aw_icmp_ge (pc := 18) (tgt := 68) dX3_stepsOf_18 (by decide) (fun hc => ?_) (fun hc => ?_)
    · rw [if_pos hc] at h
      exact aw_sel [0, 1, 2, 3, 4, 5, 6] rfl (w_x_Race_stepsOf_68 N d hd  _ _ _ _ _ _ _ _ _ h)
    · rw [if_neg hc] at h
      refine aw_aload_n (pc := 21) (q := 0) dX3_stepsOf_21 rfl ?_
      refine aw_getf (pc := 22) (v := .inr (.inr 31)) dX3_stepsOf_22 fl_RX3_22 (by decide) rfl rfl rfl ?_
      refine aw_iload (pc := 25) (q := 7) dX3_stepsOf_25 rfl ?_
      obtain ⟨hb, h⟩ := aw_cks h
      refine aw_ialdv (pc := 27) (v := w 31 x7.toNat) dX3_stepsOf_27 rfl hb.1 hb.2 rfl ?_
      refine aw_aload_n (pc := 28) (q := 0) dX3_stepsOf_28 rfl ?_
      refine aw_getf (pc := 29) (v := .inr (.inr 31)) dX3_stepsOf_29 fl_RX3_22 (by decide) rfl rfl rfl ?_
      refine aw_iload_n (pc := 32) (q := 1) dX3_stepsOf_32 rfl ?_
      obtain ⟨hb, h⟩ := aw_cks h
      refine aw_ialdv (pc := 33) (v := w 31 x1.toNat) dX3_stepsOf_33 rfl hb.1 hb.2 rfl ?_
      refine aw_icmp_le (pc := 34) (tgt := 43) dX3_stepsOf_34 (by decide) (fun hc => ?_) (fun hc => ?_)
      · rw [if_pos hc] at h
        refine aw_aload_n (pc := 43) (q := 0) dX3_stepsOf_43 rfl ?_
        refine aw_getf (pc := 44) (v := .inr (.inr 31)) dX3_stepsOf_44 fl_RX3_22 (by decide) rfl rfl rfl ?_
        refine aw_iload (pc := 47) (q := 7) dX3_stepsOf_47 rfl ?_
        obtain ⟨hb, h⟩ := aw_cks h
        refine aw_ialdv (pc := 49) (v := w 31 x7.toNat) dX3_stepsOf_49 rfl hb.1 hb.2 rfl ?_
        refine aw_aload_n (pc := 50) (q := 0) dX3_stepsOf_50 rfl ?_
        refine aw_getf (pc := 51) (v := .inr (.inr 31)) dX3_stepsOf_51 fl_RX3_22 (by decide) rfl rfl rfl ?_
        refine aw_iload_n (pc := 54) (q := 1) dX3_stepsOf_54 rfl ?_
        obtain ⟨hb, h⟩ := aw_cks h
        refine aw_ialdv (pc := 55) (v := w 31 x1.toNat) dX3_stepsOf_55 rfl hb.1 hb.2 rfl ?_
        refine aw_icmp_ge (pc := 56) (tgt := 62) dX3_stepsOf_56 (by decide) (fun hc => ?_) (fun hc => ?_)
        · rw [if_pos hc] at h
          exact aw_sel [0, 1, 2, 3, 4, 5, 6, 7] rfl (w_x_Race_stepsOf_62 N d hd  _ ih _ _ _ _ _ _ _ _ _ _ h)
        · rw [if_neg hc] at h
          refine aw_iinc (pc := 59) (q := 6) (ls' := [(6, .inl (aw_w (x6 + 1))), (0, .inr (.inr 26)), (1, .inl x1), (2, .inl x2), (3, .inl x3), (4, .inl x4), (5, .inl x5), (7, .inl x7)]) dX3_stepsOf_59 rfl (by decide) rfl ?_
          exact aw_sel [1, 2, 3, 4, 5, 6, 0, 7] rfl (w_x_Race_stepsOf_62 N d hd  _ ih _ _ _ _ _ _ _ _ _ _ h)
      · rw [if_neg hc] at h
        refine aw_iinc (pc := 37) (q := 5) (ls' := [(5, .inl (aw_w (x5 + 1))), (0, .inr (.inr 26)), (1, .inl x1), (2, .inl x2), (3, .inl x3), (4, .inl x4), (6, .inl x6), (7, .inl x7)]) dX3_stepsOf_37 rfl (by decide) rfl ?_
        refine aw_goto (pc := 40) (tgt := 62) dX3_stepsOf_40 (by decide) ?_
        exact aw_sel [1, 2, 3, 4, 5, 0, 6, 7] rfl (w_x_Race_stepsOf_62 N d hd  _ ih _ _ _ _ _ _ _ _ _ _ h)
def x_Race_stepsOf (N : Nat) (x1 x2 x3 x4 : Int) (w : aw_W) : Option (Int × aw_W) :=
  x_Race_stepsOf_9 N N x1 x2 x3 x4 0 0 0 w
theorem w_x_Race_stepsOf_d {l : Launch} {K : aw_K} (N d : Nat) (hd : 2 ≤ d) : ∀ (x1 x2 x3 x4 : Int) (w : aw_W) (y : Int) (v : aw_W), x_Race_stepsOf N x1 x2 x3 x4 w = some (y, v) → aw_Met l K MX3_stepsOf (d + 1) [.inr (.inr 26), .inl x1, .inl x2, .inl x3, .inl x4] w (some (.inl y), v) := by
  intro x1 x2 x3 x4 w y v h
  unfold x_Race_stepsOf at h
  refine aw_enter rfl (Nat.le_of_ble_eq_true rfl) ?_
  show aw_AW l K MX3_stepsOf (d + 1) 0 [(0, .inr (.inr 26)), (1, .inl x1), (2, .inl x2), (3, .inl x3), (4, .inl x4)] [] w (some (.inl y), v)
  refine aw_iconst (pc := 0) dX3_stepsOf_0 ⟨by decide, by decide⟩ ?_
  refine aw_istore (pc := 1) (ls' := [(5, .inl 0), (0, .inr (.inr 26)), (1, .inl x1), (2, .inl x2), (3, .inl x3), (4, .inl x4)]) dX3_stepsOf_1 (by decide) rfl ?_
  refine aw_iconst (pc := 3) dX3_stepsOf_3 ⟨by decide, by decide⟩ ?_
  refine aw_istore (pc := 4) (ls' := [(6, .inl 0), (5, .inl 0), (0, .inr (.inr 26)), (1, .inl x1), (2, .inl x2), (3, .inl x3), (4, .inl x4)]) dX3_stepsOf_4 (by decide) rfl ?_
  refine aw_iconst (pc := 6) dX3_stepsOf_6 ⟨by decide, by decide⟩ ?_
  refine aw_istore (pc := 7) (ls' := [(7, .inl 0), (6, .inl 0), (5, .inl 0), (0, .inr (.inr 26)), (1, .inl x1), (2, .inl x2), (3, .inl x3), (4, .inl x4)]) dX3_stepsOf_7 (by decide) rfl ?_
  exact aw_sel [3, 4, 5, 6, 7, 2, 1, 0] rfl (w_x_Race_stepsOf_9 N d hd  N _ _ _ _ _ _ _ _ _ _ h)
theorem w_x_Race_stepsOf {l : Launch} {K : aw_K} (N d : Nat) (hd : 3 ≤ d) : ∀ (x1 x2 x3 x4 : Int) (w : aw_W) (y : Int) (v : aw_W), x_Race_stepsOf N x1 x2 x3 x4 w = some (y, v) → aw_Met l K MX3_stepsOf (d) [.inr (.inr 26), .inl x1, .inl x2, .inl x3, .inl x4] w (some (.inl y), v) := by
  obtain ⟨e, rfl⟩ : ∃ e, d = e + 1 := ⟨d - 1, by omega⟩
  exact w_x_Race_stepsOf_d N e (by omega)
theorem dX3_go_0 : decode cX3_go 0 = .ok (.aload_n 0, 1) := by decide +kernel
theorem dX3_go_1 : decode cX3_go 1 = .ok (.getfield 22, 3) := by decide +kernel
theorem dX3_go_4 : decode cX3_go 4 = .ok (.iconst 0, 1) := by decide +kernel
theorem dX3_go_5 : decode cX3_go 5 = .ok (.invokestatic 48, 3) := by decide +kernel
theorem dX3_go_8 : decode cX3_go 8 = .ok (.aload_n 0, 1) := by decide +kernel
theorem dX3_go_9 : decode cX3_go 9 = .ok (.getfield 25, 3) := by decide +kernel
theorem dX3_go_12 : decode cX3_go 12 = .ok (.iconst (-1), 1) := by decide +kernel
theorem dX3_go_13 : decode cX3_go 13 = .ok (.invokestatic 48, 3) := by decide +kernel
theorem dX3_go_16 : decode cX3_go 16 = .ok (.aload_n 0, 1) := by decide +kernel
theorem dX3_go_17 : decode cX3_go 17 = .ok (.iconst 0, 1) := by decide +kernel
theorem dX3_go_18 : decode cX3_go 18 = .ok (.putfield 54, 3) := by decide +kernel
theorem dX3_go_21 : decode cX3_go 21 = .ok (.aload_n 0, 1) := by decide +kernel
theorem dX3_go_22 : decode cX3_go 22 = .ok (.iconst (-1), 1) := by decide +kernel
theorem dX3_go_23 : decode cX3_go 23 = .ok (.putfield 58, 3) := by decide +kernel
theorem dX3_go_26 : decode cX3_go 26 = .ok (.iconst 0, 1) := by decide +kernel
theorem dX3_go_27 : decode cX3_go 27 = .ok (.istore 4, 2) := by decide +kernel
theorem dX3_go_29 : decode cX3_go 29 = .ok (.iload 4, 2) := by decide +kernel
theorem dX3_go_31 : decode cX3_go 31 = .ok (.iload_n 3, 1) := by decide +kernel
theorem dX3_go_32 : decode cX3_go 32 = .ok (.if_icmp .ge 89, 3) := by decide +kernel
theorem dX3_go_35 : decode cX3_go 35 = .ok (.aload_n 0, 1) := by decide +kernel
theorem dX3_go_36 : decode cX3_go 36 = .ok (.getfield 54, 3) := by decide +kernel
theorem dX3_go_39 : decode cX3_go 39 = .ok (.aload_n 0, 1) := by decide +kernel
theorem dX3_go_40 : decode cX3_go 40 = .ok (.getfield 31, 3) := by decide +kernel
theorem dX3_go_43 : decode cX3_go 43 = .ok (.getfield 61, 3) := by decide +kernel
theorem dX3_go_46 : decode cX3_go 46 = .ok (.if_icmp .ge 75, 3) := by decide +kernel
theorem dX3_go_49 : decode cX3_go 49 = .ok (.iconst 0, 1) := by decide +kernel
theorem dX3_go_50 : decode cX3_go 50 = .ok (.istore 5, 2) := by decide +kernel
theorem dX3_go_52 : decode cX3_go 52 = .ok (.iload 5, 2) := by decide +kernel
theorem dX3_go_54 : decode cX3_go 54 = .ok (.aload_n 0, 1) := by decide +kernel
theorem dX3_go_55 : decode cX3_go 55 = .ok (.getfield 31, 3) := by decide +kernel
theorem dX3_go_58 : decode cX3_go 58 = .ok (.getfield 61, 3) := by decide +kernel
theorem dX3_go_61 : decode cX3_go 61 = .ok (.if_icmp .ge 41, 3) := by decide +kernel
theorem dX3_go_64 : decode cX3_go 64 = .ok (.aload_n 0, 1) := by decide +kernel
theorem dX3_go_65 : decode cX3_go 65 = .ok (.getfield 28, 3) := by decide +kernel
theorem dX3_go_68 : decode cX3_go 68 = .ok (.iload 5, 2) := by decide +kernel
theorem dX3_go_70 : decode cX3_go 70 = .ok (.aload_n 0, 1) := by decide +kernel
theorem dX3_go_71 : decode cX3_go 71 = .ok (.getfield 25, 3) := by decide +kernel
theorem dX3_go_74 : decode cX3_go 74 = .ok (.iload 5, 2) := by decide +kernel
theorem dX3_go_76 : decode cX3_go 76 = .ok (.iaload, 1) := by decide +kernel
theorem dX3_go_77 : decode cX3_go 77 = .ok (.iconst (-1), 1) := by decide +kernel
theorem dX3_go_78 : decode cX3_go 78 = .ok (.if_icmp .ne 16, 3) := by decide +kernel
theorem dX3_go_81 : decode cX3_go 81 = .ok (.aload_n 0, 1) := by decide +kernel
theorem dX3_go_82 : decode cX3_go 82 = .ok (.iload 5, 2) := by decide +kernel
theorem dX3_go_84 : decode cX3_go 84 = .ok (.iload_n 1, 1) := by decide +kernel
theorem dX3_go_85 : decode cX3_go 85 = .ok (.iload_n 2, 1) := by decide +kernel
theorem dX3_go_86 : decode cX3_go 86 = .ok (.iload 4, 2) := by decide +kernel
theorem dX3_go_88 : decode cX3_go 88 = .ok (.invokevirtual 64, 3) := by decide +kernel
theorem dX3_go_91 : decode cX3_go 91 = .ok (.goto 4, 3) := by decide +kernel
theorem dX3_go_94 : decode cX3_go 94 = .ok (.iconst 0, 1) := by decide +kernel
theorem dX3_go_95 : decode cX3_go 95 = .ok (.iastore, 1) := by decide +kernel
theorem dX3_go_96 : decode cX3_go 96 = .ok (.iinc 5 1, 3) := by decide +kernel
theorem dX3_go_99 : decode cX3_go 99 = .ok (.goto (-47), 3) := by decide +kernel
theorem dX3_go_102 : decode cX3_go 102 = .ok (.aload_n 0, 1) := by decide +kernel
theorem dX3_go_103 : decode cX3_go 103 = .ok (.iload_n 1, 1) := by decide +kernel
theorem dX3_go_104 : decode cX3_go 104 = .ok (.iload 4, 2) := by decide +kernel
theorem dX3_go_106 : decode cX3_go 106 = .ok (.invokevirtual 68, 3) := by decide +kernel
theorem dX3_go_109 : decode cX3_go 109 = .ok (.aload_n 0, 1) := by decide +kernel
theorem dX3_go_110 : decode cX3_go 110 = .ok (.iload 4, 2) := by decide +kernel
theorem dX3_go_112 : decode cX3_go 112 = .ok (.putfield 58, 3) := by decide +kernel
theorem dX3_go_115 : decode cX3_go 115 = .ok (.iinc 4 1, 3) := by decide +kernel
theorem dX3_go_118 : decode cX3_go 118 = .ok (.goto (-89), 3) := by decide +kernel
theorem dX3_go_121 : decode cX3_go 121 = .ok (.return_, 1) := by decide +kernel
def x_Race_go_121 (N : Nat) (w : aw_W) : Option (aw_W) :=
  some w
theorem w_x_Race_go_121 {l : Launch} {K : aw_K} (N d : Nat) (hd : 3 ≤ d) : ∀ (w v : aw_W), x_Race_go_121 N w = some v → aw_AW l K MX3_go (d + 1) 121 [] [] w (none, v) := by
  intro w v h
  unfold x_Race_go_121 at h
  cases h
  exact aw_vret (pc := 121) rfl dX3_go_121
def x_Race_go_102 (N : Nat) (k29 : Int → Int → Int → Int → aw_W → Option (aw_W)) (x1 x2 x3 x4 : Int) (w : aw_W) : Option (aw_W) :=
  aw_b1 (x_Race_walk N x1 x4 w) fun w1 =>
    k29 x1 x2 x3 (aw_w (x4 + 1)) (aw_up w1 26 8 x4)
theorem w_x_Race_go_102 {l : Launch} {K : aw_K} (N d : Nat) (hd : 3 ≤ d) (k29 : Int → Int → Int → Int → aw_W → Option (aw_W)) (hk29 : ∀ (x1 x2 x3 x4 : Int) (w v : aw_W), k29 x1 x2 x3 x4 w = some v → aw_AW l K MX3_go (d + 1) 29 [(0, .inr (.inr 26)), (1, .inl x1), (2, .inl x2), (3, .inl x3), (4, .inl x4)] [] w (none, v)) : ∀ (x1 x2 x3 x4 : Int) (w v : aw_W), x_Race_go_102 N k29 x1 x2 x3 x4 w = some v → aw_AW l K MX3_go (d + 1) 102 [(0, .inr (.inr 26)), (1, .inl x1), (2, .inl x2), (3, .inl x3), (4, .inl x4)] [] w (none, v) := by
  intro x1 x2 x3 x4 w v h
  unfold x_Race_go_102 at h
  refine aw_aload_n (pc := 102) (q := 0) dX3_go_102 rfl ?_
  refine aw_iload_n (pc := 103) (q := 1) dX3_go_103 rfl ?_
  refine aw_iload (pc := 104) (q := 4) dX3_go_104 rfl ?_
  obtain ⟨w1, h1, h⟩ := aw_b1s h
  refine aw_callV (pc := 106) (as := [.inl x1, .inl x4]) (st := []) (st' := []) dX3_go_106 cv_RX3_68 (by decide) rfl rfl rfl rfl (Nat.le_of_ble_eq_true rfl) (w_x_Race_walk N d (by omega) _ _ _ _ h1) rfl ?_
  refine aw_aload_n (pc := 109) (q := 0) dX3_go_109 rfl ?_
  refine aw_iload (pc := 110) (q := 4) dX3_go_110 rfl ?_
  refine aw_puti (pc := 112) dX3_go_112 fp_RX3_58 (by decide) rfl rfl ?_
  refine aw_iinc (pc := 115) (q := 4) (ls' := [(4, .inl (aw_w (x4 + 1))), (0, .inr (.inr 26)), (1, .inl x1), (2, .inl x2), (3, .inl x3)]) dX3_go_115 rfl (by decide) rfl ?_
  refine aw_goto (pc := 118) (tgt := 29) dX3_go_118 (by decide) ?_
  exact aw_sel [1, 2, 3, 4, 0] rfl (hk29 _ _ _ _ _ _ h)
def x_Race_go_95 (N : Nat) (k29 : Int → Int → Int → Int → aw_W → Option (aw_W)) (k52 : Int → Int → Int → Int → Int → aw_W → Option (aw_W)) (x1 x2 x3 x4 x5 s0 s1 : Int) (w : aw_W) : Option (aw_W) :=
  if 0 ≤ s1 ∧ s1 < 6 then
    k52 x1 x2 x3 x4 (aw_w (x5 + 1)) (aw_up w 33 s1.toNat s0)
  else none
theorem w_x_Race_go_95 {l : Launch} {K : aw_K} (N d : Nat) (hd : 3 ≤ d) (k29 : Int → Int → Int → Int → aw_W → Option (aw_W)) (hk29 : ∀ (x1 x2 x3 x4 : Int) (w v : aw_W), k29 x1 x2 x3 x4 w = some v → aw_AW l K MX3_go (d + 1) 29 [(0, .inr (.inr 26)), (1, .inl x1), (2, .inl x2), (3, .inl x3), (4, .inl x4)] [] w (none, v)) (k52 : Int → Int → Int → Int → Int → aw_W → Option (aw_W)) (hk52 : ∀ (x1 x2 x3 x4 x5 : Int) (w v : aw_W), k52 x1 x2 x3 x4 x5 w = some v → aw_AW l K MX3_go (d + 1) 52 [(0, .inr (.inr 26)), (1, .inl x1), (2, .inl x2), (3, .inl x3), (4, .inl x4), (5, .inl x5)] [] w (none, v)) : ∀ (x1 x2 x3 x4 x5 s0 s1 : Int) (w v : aw_W), x_Race_go_95 N k29 k52 x1 x2 x3 x4 x5 s0 s1 w = some v → aw_AW l K MX3_go (d + 1) 95 [(0, .inr (.inr 26)), (1, .inl x1), (2, .inl x2), (3, .inl x3), (4, .inl x4), (5, .inl x5)] [.inl s0, .inl s1, .inr (.inr 33)] w (none, v) := by
  intro x1 x2 x3 x4 x5 s0 s1 w v h
  unfold x_Race_go_95 at h
  obtain ⟨hb, h⟩ := aw_cks h
  refine aw_iast (pc := 95) dX3_go_95 rfl hb.1 hb.2 ?_
  refine aw_iinc (pc := 96) (q := 5) (ls' := [(5, .inl (aw_w (x5 + 1))), (0, .inr (.inr 26)), (1, .inl x1), (2, .inl x2), (3, .inl x3), (4, .inl x4)]) dX3_go_96 rfl (by decide) rfl ?_
  refine aw_goto (pc := 99) (tgt := 52) dX3_go_99 (by decide) ?_
  exact aw_sel [1, 2, 3, 4, 5, 0] rfl (hk52 _ _ _ _ _ _ _ h)
def x_Race_go_52 (N : Nat) (k29 : Int → Int → Int → Int → aw_W → Option (aw_W)) : Nat → Int → Int → Int → Int → Int → aw_W → Option (aw_W)
  | 0, _, _, _, _, _, _ => none
  | n + 1, x1, x2, x3, x4, x5, w =>
    if (w 3 4) ≤ x5 then
      x_Race_go_102 N k29 x1 x2 x3 x4 w
    else
      if 0 ≤ x5 ∧ x5 < 6 then
        if (w 32 x5.toNat) = (-1) then
          aw_b2 (x_Race_stepsOf N x5 x1 x2 x4 w) fun r1 w1 =>
            x_Race_go_95 N k29 (x_Race_go_52 N k29 n) x1 x2 x3 x4 x5 r1 x5 w1
        else
          x_Race_go_95 N k29 (x_Race_go_52 N k29 n) x1 x2 x3 x4 x5 0 x5 w
      else none
theorem w_x_Race_go_52 {l : Launch} {K : aw_K} (N d : Nat) (hd : 3 ≤ d) (k29 : Int → Int → Int → Int → aw_W → Option (aw_W)) (hk29 : ∀ (x1 x2 x3 x4 : Int) (w v : aw_W), k29 x1 x2 x3 x4 w = some v → aw_AW l K MX3_go (d + 1) 29 [(0, .inr (.inr 26)), (1, .inl x1), (2, .inl x2), (3, .inl x3), (4, .inl x4)] [] w (none, v)) : ∀ (n : Nat) (x1 x2 x3 x4 x5 : Int) (w v : aw_W), x_Race_go_52 N k29 n x1 x2 x3 x4 x5 w = some v → aw_AW l K MX3_go (d + 1) 52 [(0, .inr (.inr 26)), (1, .inl x1), (2, .inl x2), (3, .inl x3), (4, .inl x4), (5, .inl x5)] [] w (none, v) := by
  intro n
  induction n with
  | zero => intro x1 x2 x3 x4 x5 w v h; rw [x_Race_go_52] at h; cases h
  | succ n ih =>
    intro x1 x2 x3 x4 x5 w v h
    rw [x_Race_go_52] at h
    refine aw_iload (pc := 52) (q := 5) dX3_go_52 rfl ?_
    refine aw_aload_n (pc := 54) (q := 0) dX3_go_54 rfl ?_
    refine aw_getf (pc := 55) (v := .inr (.inr 3)) dX3_go_55 fl_RX3_31 (by decide) rfl rfl rfl ?_
    refine aw_getf (pc := 58) (v := .inl (w 3 4)) dX3_go_58 fl_RX3_61 (by decide) rfl rfl rfl ?_
    refine aw_icmp_ge (pc := 61) (tgt := 102) dX3_go_61 (by decide) (fun hc => ?_) (fun hc => ?_)
    · rw [if_pos hc] at h
      exact aw_sel [0, 1, 2, 3, 4] rfl (w_x_Race_go_102 N d hd  _ hk29 _ _ _ _ _ _ h)
    · rw [if_neg hc] at h
      refine aw_aload_n (pc := 64) (q := 0) dX3_go_64 rfl ?_
      refine aw_getf (pc := 65) (v := .inr (.inr 33)) dX3_go_65 fl_RX3_28 (by decide) rfl rfl rfl ?_
      refine aw_iload (pc := 68) (q := 5) dX3_go_68 rfl ?_
      refine aw_aload_n (pc := 70) (q := 0) dX3_go_70 rfl ?_
      refine aw_getf (pc := 71) (v := .inr (.inr 32)) dX3_go_71 fl_RX3_25 (by decide) rfl rfl rfl ?_
      refine aw_iload (pc := 74) (q := 5) dX3_go_74 rfl ?_
      obtain ⟨hb, h⟩ := aw_cks h
      refine aw_ialdv (pc := 76) (v := w 32 x5.toNat) dX3_go_76 rfl hb.1 hb.2 rfl ?_
      refine aw_iconst (pc := 77) dX3_go_77 ⟨by decide, by decide⟩ ?_
      refine aw_icmp_ne (pc := 78) (tgt := 94) dX3_go_78 (by decide) (fun hc => ?_) (fun hc => ?_)
      · rw [if_neg hc] at h
        refine aw_iconst (pc := 94) dX3_go_94 ⟨by decide, by decide⟩ ?_
        exact aw_sel [0, 1, 2, 3, 4, 5] rfl (w_x_Race_go_95 N d hd  _ hk29 _ ih _ _ _ _ _ _ _ _ _ h)
      · rw [if_pos hc] at h
        refine aw_aload_n (pc := 81) (q := 0) dX3_go_81 rfl ?_
        refine aw_iload (pc := 82) (q := 5) dX3_go_82 rfl ?_
        refine aw_iload_n (pc := 84) (q := 1) dX3_go_84 rfl ?_
        refine aw_iload_n (pc := 85) (q := 2) dX3_go_85 rfl ?_
        refine aw_iload (pc := 86) (q := 4) dX3_go_86 rfl ?_
        obtain ⟨r1, w1, h1, h⟩ := aw_b2s h
        refine aw_callV (pc := 88) (as := [.inl x5, .inl x1, .inl x2, .inl x4]) (st := [.inl x5, .inr (.inr 33)]) (st' := [.inl r1, .inl x5, .inr (.inr 33)]) dX3_go_88 cv_RX3_64 (by decide) rfl rfl rfl rfl (Nat.le_of_ble_eq_true rfl) (w_x_Race_stepsOf N d (by omega) _ _ _ _ _ _ _ h1) rfl ?_
        refine aw_goto (pc := 91) (tgt := 95) dX3_go_91 (by decide) ?_
        exact aw_sel [0, 1, 2, 3, 4, 5] rfl (w_x_Race_go_95 N d hd  _ hk29 _ ih _ _ _ _ _ _ _ _ _ h)
def x_Race_go_29 (N : Nat) : Nat → Int → Int → Int → Int → aw_W → Option (aw_W)
  | 0, _, _, _, _, _ => none
  | n + 1, x1, x2, x3, x4, w =>
    if x3 ≤ x4 then
      x_Race_go_121 N w
    else
      if (w 3 4) ≤ (w 26 7) then
        x_Race_go_121 N w
      else
        x_Race_go_52 N (x_Race_go_29 N n) N x1 x2 x3 x4 0 w
theorem w_x_Race_go_29 {l : Launch} {K : aw_K} (N d : Nat) (hd : 3 ≤ d) : ∀ (n : Nat) (x1 x2 x3 x4 : Int) (w v : aw_W), x_Race_go_29 N n x1 x2 x3 x4 w = some v → aw_AW l K MX3_go (d + 1) 29 [(0, .inr (.inr 26)), (1, .inl x1), (2, .inl x2), (3, .inl x3), (4, .inl x4)] [] w (none, v) := by
  intro n
  induction n with
  | zero => intro x1 x2 x3 x4 w v h; rw [x_Race_go_29] at h; cases h
  | succ n ih =>
    intro x1 x2 x3 x4 w v h
    rw [x_Race_go_29] at h
    refine aw_iload (pc := 29) (q := 4) dX3_go_29 rfl ?_
    refine aw_iload_n (pc := 31) (q := 3) dX3_go_31 rfl ?_
    refine aw_icmp_ge (pc := 32) (tgt := 121) dX3_go_32 (by decide) (fun hc => ?_) (fun hc => ?_)
    · rw [if_pos hc] at h
      exact aw_sel [] rfl (w_x_Race_go_121 N d hd  _ _ h)
    · rw [if_neg hc] at h
      refine aw_aload_n (pc := 35) (q := 0) dX3_go_35 rfl ?_
      refine aw_getf (pc := 36) (v := .inl (w 26 7)) dX3_go_36 fl_RX3_54 (by decide) rfl rfl rfl ?_
      refine aw_aload_n (pc := 39) (q := 0) dX3_go_39 rfl ?_
      refine aw_getf (pc := 40) (v := .inr (.inr 3)) dX3_go_40 fl_RX3_31 (by decide) rfl rfl rfl ?_
      refine aw_getf (pc := 43) (v := .inl (w 3 4)) dX3_go_43 fl_RX3_61 (by decide) rfl rfl rfl ?_
      refine aw_icmp_ge (pc := 46) (tgt := 121) dX3_go_46 (by decide) (fun hc => ?_) (fun hc => ?_)
      · rw [if_pos hc] at h
        exact aw_sel [] rfl (w_x_Race_go_121 N d hd  _ _ h)
      · rw [if_neg hc] at h
        refine aw_iconst (pc := 49) dX3_go_49 ⟨by decide, by decide⟩ ?_
        refine aw_istore (pc := 50) (ls' := [(5, .inl 0), (0, .inr (.inr 26)), (1, .inl x1), (2, .inl x2), (3, .inl x3), (4, .inl x4)]) dX3_go_50 (by decide) rfl ?_
        exact aw_sel [1, 2, 3, 4, 5, 0] rfl (w_x_Race_go_52 N d hd  _ ih N _ _ _ _ _ _ _ h)
def x_Race_go (N : Nat) (x1 x2 x3 : Int) (w : aw_W) : Option (aw_W) :=
  aw_b1 (j_Arr_fill_Ii N 0 w) fun w1 =>
    aw_b1 (j_Arr_fill_Ii_32 N (-1) w1) fun w2 =>
      x_Race_go_29 N N x1 x2 x3 0 (aw_up (aw_up w2 26 7 0) 26 8 (-1))
theorem w_x_Race_go_d {l : Launch} {K : aw_K} (N d : Nat) (hd : 3 ≤ d) : ∀ (x1 x2 x3 : Int) (w v : aw_W), x_Race_go N x1 x2 x3 w = some v → aw_Met l K MX3_go (d + 1) [.inr (.inr 26), .inl x1, .inl x2, .inl x3] w (none, v) := by
  intro x1 x2 x3 w v h
  unfold x_Race_go at h
  refine aw_enter rfl (Nat.le_of_ble_eq_true rfl) ?_
  show aw_AW l K MX3_go (d + 1) 0 [(0, .inr (.inr 26)), (1, .inl x1), (2, .inl x2), (3, .inl x3)] [] w (none, v)
  refine aw_aload_n (pc := 0) (q := 0) dX3_go_0 rfl ?_
  refine aw_getf (pc := 1) (v := .inr (.inr 31)) dX3_go_1 fl_RX3_22 (by decide) rfl rfl rfl ?_
  refine aw_iconst (pc := 4) dX3_go_4 ⟨by decide, by decide⟩ ?_
  obtain ⟨w1, h1, h⟩ := aw_b1s h
  refine aw_callS (pc := 5) (as := [.inr (.inr 31), .inl 0]) (st := []) (st' := []) dX3_go_5 cs_RX3_48 rfl rfl (Nat.le_of_ble_eq_true rfl) (w_j_Arr_fill_Ii N d (by omega) _ _ _ h1) rfl ?_
  refine aw_aload_n (pc := 8) (q := 0) dX3_go_8 rfl ?_
  refine aw_getf (pc := 9) (v := .inr (.inr 32)) dX3_go_9 fl_RX3_25 (by decide) rfl rfl rfl ?_
  refine aw_iconst (pc := 12) dX3_go_12 ⟨by decide, by decide⟩ ?_
  obtain ⟨w2, h2, h⟩ := aw_b1s h
  refine aw_callS (pc := 13) (as := [.inr (.inr 32), .inl (-1)]) (st := []) (st' := []) dX3_go_13 cs_RX3_48 rfl rfl (Nat.le_of_ble_eq_true rfl) (w_j_Arr_fill_Ii_32 N d (by omega) _ _ _ h2) rfl ?_
  refine aw_aload_n (pc := 16) (q := 0) dX3_go_16 rfl ?_
  refine aw_iconst (pc := 17) dX3_go_17 ⟨by decide, by decide⟩ ?_
  refine aw_puti (pc := 18) dX3_go_18 fp_RX3_54 (by decide) rfl rfl ?_
  refine aw_aload_n (pc := 21) (q := 0) dX3_go_21 rfl ?_
  refine aw_iconst (pc := 22) dX3_go_22 ⟨by decide, by decide⟩ ?_
  refine aw_puti (pc := 23) dX3_go_23 fp_RX3_58 (by decide) rfl rfl ?_
  refine aw_iconst (pc := 26) dX3_go_26 ⟨by decide, by decide⟩ ?_
  refine aw_istore (pc := 27) (ls' := [(4, .inl 0), (0, .inr (.inr 26)), (1, .inl x1), (2, .inl x2), (3, .inl x3)]) dX3_go_27 (by decide) rfl ?_
  exact aw_sel [1, 2, 3, 4, 0] rfl (w_x_Race_go_29 N d hd  N _ _ _ _ _ _ h)
theorem w_x_Race_go {l : Launch} {K : aw_K} (N d : Nat) (hd : 4 ≤ d) : ∀ (x1 x2 x3 : Int) (w v : aw_W), x_Race_go N x1 x2 x3 w = some v → aw_Met l K MX3_go (d) [.inr (.inr 26), .inl x1, .inl x2, .inl x3] w (none, v) := by
  obtain ⟨e, rfl⟩ : ∃ e, d = e + 1 := ⟨d - 1, by omega⟩
  exact w_x_Race_go_d N e (by omega)
theorem dX11_came_0 : decode cX11_came 0 = .ok (.aload_n 0, 1) := by decide +kernel
theorem dX11_came_1 : decode cX11_came 1 = .ok (.getfield 19, 3) := by decide +kernel
theorem dX11_came_4 : decode cX11_came 4 = .ok (.iload_n 3, 1) := by decide +kernel
theorem dX11_came_5 : decode cX11_came 5 = .ok (.invokevirtual 137, 3) := by decide +kernel
theorem dX11_came_8 : decode cX11_came 8 = .ok (.ifCond .eq 11, 3) := by decide +kernel
theorem dX11_came_11 : decode cX11_came 11 = .ok (.iload_n 1, 1) := by decide +kernel
theorem dX11_came_12 : decode cX11_came 12 = .ok (.iload_n 2, 1) := by decide +kernel
theorem dX11_came_13 : decode cX11_came 13 = .ok (.invokestatic 161, 3) := by decide +kernel
theorem dX11_came_16 : decode cX11_came 16 = .ok (.ifCond .ne 6, 3) := by decide +kernel
theorem dX11_came_19 : decode cX11_came 19 = .ok (.ldc 165, 2) := by decide +kernel
theorem dX11_came_21 : decode cX11_came 21 = .ok (.ireturn, 1) := by decide +kernel
theorem dX11_came_22 : decode cX11_came 22 = .ok (.aload_n 0, 1) := by decide +kernel
theorem dX11_came_23 : decode cX11_came 23 = .ok (.getfield 63, 3) := by decide +kernel
theorem dX11_came_26 : decode cX11_came 26 = .ok (.invokevirtual 166, 3) := by decide +kernel
theorem dX11_came_29 : decode cX11_came 29 = .ok (.aload_n 0, 1) := by decide +kernel
theorem dX11_came_30 : decode cX11_came 30 = .ok (.getfield 63, 3) := by decide +kernel
theorem dX11_came_33 : decode cX11_came 33 = .ok (.iload_n 1, 1) := by decide +kernel
theorem dX11_came_34 : decode cX11_came 34 = .ok (.iload_n 2, 1) := by decide +kernel
theorem dX11_came_35 : decode cX11_came 35 = .ok (.iload_n 2, 1) := by decide +kernel
theorem dX11_came_36 : decode cX11_came 36 = .ok (.invokevirtual 169, 3) := by decide +kernel
theorem dX11_came_39 : decode cX11_came 39 = .ok (.aload_n 0, 1) := by decide +kernel
theorem dX11_came_40 : decode cX11_came 40 = .ok (.getfield 63, 3) := by decide +kernel
theorem dX11_came_43 : decode cX11_came 43 = .ok (.getfield 182, 3) := by decide +kernel
theorem dX11_came_46 : decode cX11_came 46 = .ok (.iload_n 3, 1) := by decide +kernel
theorem dX11_came_47 : decode cX11_came 47 = .ok (.iaload, 1) := by decide +kernel
theorem dX11_came_48 : decode cX11_came 48 = .ok (.ireturn, 1) := by decide +kernel
def x_came_19 (N : Nat) (w : aw_W) : Option (Int × aw_W) :=
  some ((-1000000), w)
theorem w_x_came_19 {l : Launch} {K : aw_K} (N d : Nat) (hd : 4 ≤ d) : ∀ (w : aw_W) (y : Int) (v : aw_W), x_came_19 N w = some (y, v) → aw_AW l K MX11_came (d + 1) 19 [] [] w (some (.inl y), v) := by
  intro w y v h
  unfold x_came_19 at h
  refine aw_ldc (pc := 19) (x := (-1000000)) dX11_came_19 cn_RX11_165 ⟨by decide, by decide⟩ ?_
  cases h
  exact aw_iret (pc := 21) rfl dX11_came_21
def x_came (N : Nat) (x1 x2 x3 : Int) (w : aw_W) : Option (Int × aw_W) :=
  aw_b2 (x_Land_holds N x3 w) fun r1 w1 =>
    if r1 = 0 then
      x_came_19 N w1
    else
      aw_b2 (x_mayRun N x1 x2 w1) fun r2 w2 =>
        if r2 = 0 then
          x_came_19 N w2
        else
          aw_b1 (x_Race_rulesAsTold N w2) fun w3 =>
            aw_b1 (x_Race_go N x1 x2 x2 w3) fun w4 =>
              if 0 ≤ x3 ∧ x3 < 6 then
                some (w4 32 x3.toNat, w4)
              else none
theorem w_x_came_d {l : Launch} {K : aw_K} (N d : Nat) (hd : 4 ≤ d) : ∀ (x1 x2 x3 : Int) (w : aw_W) (y : Int) (v : aw_W), x_came N x1 x2 x3 w = some (y, v) → aw_Met l K MX11_came (d + 1) [.inr (.inr 0), .inl x1, .inl x2, .inl x3] w (some (.inl y), v) := by
  intro x1 x2 x3 w y v h
  unfold x_came at h
  refine aw_enter rfl (Nat.le_of_ble_eq_true rfl) ?_
  show aw_AW l K MX11_came (d + 1) 0 [(0, .inr (.inr 0)), (1, .inl x1), (2, .inl x2), (3, .inl x3)] [] w (some (.inl y), v)
  refine aw_aload_n (pc := 0) (q := 0) dX11_came_0 rfl ?_
  refine aw_getf (pc := 1) (v := .inr (.inr 3)) dX11_came_1 fl_RX11_19 (by decide) rfl rfl rfl ?_
  refine aw_iload_n (pc := 4) (q := 3) dX11_came_4 rfl ?_
  obtain ⟨r1, w1, h1, h⟩ := aw_b2s h
  refine aw_callV (pc := 5) (as := [.inl x3]) (st := []) (st' := [.inl r1]) dX11_came_5 cv_RX11_137 (by decide) rfl rfl rfl rfl (Nat.le_of_ble_eq_true rfl) (w_x_Land_holds N d (by omega) _ _ _ _ h1) rfl ?_
  refine aw_if_eq (pc := 8) (tgt := 19) dX11_came_8 (by decide) (fun hc => ?_) (fun hc => ?_)
  · rw [if_pos hc] at h
    exact aw_sel [] rfl (w_x_came_19 N d hd  _ _ _ h)
  · rw [if_neg hc] at h
    refine aw_iload_n (pc := 11) (q := 1) dX11_came_11 rfl ?_
    refine aw_iload_n (pc := 12) (q := 2) dX11_came_12 rfl ?_
    obtain ⟨r2, w2, h2, h⟩ := aw_b2s h
    refine aw_callS (pc := 13) (as := [.inl x1, .inl x2]) (st := []) (st' := [.inl r2]) dX11_came_13 cs_RX11_161 rfl rfl (Nat.le_of_ble_eq_true rfl) (w_x_mayRun N d (by omega) _ _ _ _ _ h2) rfl ?_
    refine aw_if_ne (pc := 16) (tgt := 22) dX11_came_16 (by decide) (fun hc => ?_) (fun hc => ?_)
    · rw [if_neg hc] at h
      refine aw_aload_n (pc := 22) (q := 0) dX11_came_22 rfl ?_
      refine aw_getf (pc := 23) (v := .inr (.inr 26)) dX11_came_23 fl_RX11_63 (by decide) rfl rfl rfl ?_
      obtain ⟨w3, h3, h⟩ := aw_b1s h
      refine aw_callV (pc := 26) (as := []) (st := []) (st' := []) dX11_came_26 cv_RX11_166 (by decide) rfl rfl rfl rfl (Nat.le_of_ble_eq_true rfl) (w_x_Race_rulesAsTold N d (by omega) _ _ h3) rfl ?_
      refine aw_aload_n (pc := 29) (q := 0) dX11_came_29 rfl ?_
      refine aw_getf (pc := 30) (v := .inr (.inr 26)) dX11_came_30 fl_RX11_63 (by decide) rfl rfl rfl ?_
      refine aw_iload_n (pc := 33) (q := 1) dX11_came_33 rfl ?_
      refine aw_iload_n (pc := 34) (q := 2) dX11_came_34 rfl ?_
      refine aw_iload_n (pc := 35) (q := 2) dX11_came_35 rfl ?_
      obtain ⟨w4, h4, h⟩ := aw_b1s h
      refine aw_callV (pc := 36) (as := [.inl x1, .inl x2, .inl x2]) (st := []) (st' := []) dX11_came_36 cv_RX11_169 (by decide) rfl rfl rfl rfl (Nat.le_of_ble_eq_true rfl) (w_x_Race_go N d (by omega) _ _ _ _ _ h4) rfl ?_
      refine aw_aload_n (pc := 39) (q := 0) dX11_came_39 rfl ?_
      refine aw_getf (pc := 40) (v := .inr (.inr 26)) dX11_came_40 fl_RX11_63 (by decide) rfl rfl rfl ?_
      refine aw_getf (pc := 43) (v := .inr (.inr 32)) dX11_came_43 fl_RX11_182 (by decide) rfl rfl rfl ?_
      refine aw_iload_n (pc := 46) (q := 3) dX11_came_46 rfl ?_
      obtain ⟨hb, h⟩ := aw_cks h
      refine aw_ialdv (pc := 47) (v := w4 32 x3.toNat) dX11_came_47 rfl hb.1 hb.2 rfl ?_
      cases h
      exact aw_iret (pc := 48) rfl dX11_came_48
    · rw [if_pos hc] at h
      exact aw_sel [] rfl (w_x_came_19 N d hd  _ _ _ h)
theorem w_x_came {l : Launch} {K : aw_K} (N d : Nat) (hd : 5 ≤ d) : ∀ (x1 x2 x3 : Int) (w : aw_W) (y : Int) (v : aw_W), x_came N x1 x2 x3 w = some (y, v) → aw_Met l K MX11_came (d) [.inr (.inr 0), .inl x1, .inl x2, .inl x3] w (some (.inl y), v) := by
  obtain ⟨e, rfl⟩ : ∃ e, d = e + 1 := ⟨d - 1, by omega⟩
  exact w_x_came_d N e (by omega)
theorem dX11_change_0 : decode cX11_change 0 = .ok (.aload_n 0, 1) := by decide +kernel
theorem dX11_change_1 : decode cX11_change 1 = .ok (.getfield 19, 3) := by decide +kernel
theorem dX11_change_4 : decode cX11_change 4 = .ok (.getfield 136, 3) := by decide +kernel
theorem dX11_change_7 : decode cX11_change 7 = .ok (.ifCond .eq 12, 3) := by decide +kernel
theorem dX11_change_10 : decode cX11_change 10 = .ok (.iload_n 1, 1) := by decide +kernel
theorem dX11_change_11 : decode cX11_change 11 = .ok (.ifCond .lt 8, 3) := by decide +kernel
theorem dX11_change_14 : decode cX11_change 14 = .ok (.iload_n 1, 1) := by decide +kernel
theorem dX11_change_15 : decode cX11_change 15 = .ok (.iconst 5, 1) := by decide +kernel
theorem dX11_change_16 : decode cX11_change 16 = .ok (.if_icmp .lt 5, 3) := by decide +kernel
theorem dX11_change_19 : decode cX11_change 19 = .ok (.iconst 0, 1) := by decide +kernel
theorem dX11_change_20 : decode cX11_change 20 = .ok (.ireturn, 1) := by decide +kernel
theorem dX11_change_21 : decode cX11_change 21 = .ok (.iload_n 2, 1) := by decide +kernel
theorem dX11_change_22 : decode cX11_change 22 = .ok (.getstatic 154, 3) := by decide +kernel
theorem dX11_change_25 : decode cX11_change 25 = .ok (.iload_n 1, 1) := by decide +kernel
theorem dX11_change_26 : decode cX11_change 26 = .ok (.iaload, 1) := by decide +kernel
theorem dX11_change_27 : decode cX11_change 27 = .ok (.if_icmp .lt 12, 3) := by decide +kernel
theorem dX11_change_30 : decode cX11_change 30 = .ok (.iload_n 2, 1) := by decide +kernel
theorem dX11_change_31 : decode cX11_change 31 = .ok (.getstatic 157, 3) := by decide +kernel
theorem dX11_change_34 : decode cX11_change 34 = .ok (.iload_n 1, 1) := by decide +kernel
theorem dX11_change_35 : decode cX11_change 35 = .ok (.iaload, 1) := by decide +kernel
theorem dX11_change_36 : decode cX11_change 36 = .ok (.if_icmp .le 5, 3) := by decide +kernel
theorem dX11_change_39 : decode cX11_change 39 = .ok (.iconst 0, 1) := by decide +kernel
theorem dX11_change_40 : decode cX11_change 40 = .ok (.ireturn, 1) := by decide +kernel
theorem dX11_change_41 : decode cX11_change 41 = .ok (.aload_n 0, 1) := by decide +kernel
theorem dX11_change_42 : decode cX11_change 42 = .ok (.getfield 19, 3) := by decide +kernel
theorem dX11_change_45 : decode cX11_change 45 = .ok (.getfield 151, 3) := by decide +kernel
theorem dX11_change_48 : decode cX11_change 48 = .ok (.iload_n 1, 1) := by decide +kernel
theorem dX11_change_49 : decode cX11_change 49 = .ok (.iload_n 2, 1) := by decide +kernel
theorem dX11_change_50 : decode cX11_change 50 = .ok (.iastore, 1) := by decide +kernel
theorem dX11_change_51 : decode cX11_change 51 = .ok (.aload_n 0, 1) := by decide +kernel
theorem dX11_change_52 : decode cX11_change 52 = .ok (.getfield 54, 3) := by decide +kernel
theorem dX11_change_55 : decode cX11_change 55 = .ok (.iconst 0, 1) := by decide +kernel
theorem dX11_change_56 : decode cX11_change 56 = .ok (.putfield 133, 3) := by decide +kernel
theorem dX11_change_59 : decode cX11_change 59 = .ok (.iconst 1, 1) := by decide +kernel
theorem dX11_change_60 : decode cX11_change 60 = .ok (.ireturn, 1) := by decide +kernel
def x_change_19 (N : Nat) (w : aw_W) : Option (Int × aw_W) :=
  some (0, w)
theorem w_x_change_19 {l : Launch} {K : aw_K} (N d : Nat) : ∀ (w : aw_W) (y : Int) (v : aw_W), x_change_19 N w = some (y, v) → aw_AW l K MX11_change (d) 19 [] [] w (some (.inl y), v) := by
  intro w y v h
  unfold x_change_19 at h
  refine aw_iconst (pc := 19) dX11_change_19 ⟨by decide, by decide⟩ ?_
  cases h
  exact aw_zret (pc := 20) rfl (by decide) dX11_change_20
def x_change_39 (N : Nat) (w : aw_W) : Option (Int × aw_W) :=
  some (0, w)
theorem w_x_change_39 {l : Launch} {K : aw_K} (N d : Nat) : ∀ (w : aw_W) (y : Int) (v : aw_W), x_change_39 N w = some (y, v) → aw_AW l K MX11_change (d) 39 [] [] w (some (.inl y), v) := by
  intro w y v h
  unfold x_change_39 at h
  refine aw_iconst (pc := 39) dX11_change_39 ⟨by decide, by decide⟩ ?_
  cases h
  exact aw_zret (pc := 40) rfl (by decide) dX11_change_40
def x_change (N : Nat) (x1 x2 : Int) (w : aw_W) : Option (Int × aw_W) :=
  if (w 3 4) = 0 then
    x_change_19 N w
  else
    if x1 < 0 then
      x_change_19 N w
    else
      if x1 < 5 then
        if 0 ≤ x1 ∧ x1 < 5 then
          if x2 < (List.getD [1, 0, 0, 0, 0] (x1.toNat) 0 : Int) then
            x_change_39 N w
          else
            if 0 ≤ x1 ∧ x1 < 5 then
              if x2 ≤ (List.getD [6, 1, 2, 99, 9] (x1.toNat) 0 : Int) then
                if 0 ≤ x1 ∧ x1 < 5 then
                  some (1, (aw_up (aw_up w 5 x1.toNat x2) 23 4 0))
                else none
              else
                x_change_39 N w
            else none
        else none
      else
        x_change_19 N w
theorem w_x_change {l : Launch} {K : aw_K} (N d : Nat) (hd : 0 ≤ d) : ∀ (x1 x2 : Int) (w : aw_W) (y : Int) (v : aw_W), x_change N x1 x2 w = some (y, v) → aw_Met l K MX11_change (d) [.inr (.inr 0), .inl x1, .inl x2] w (some (.inl y), v) := by
  intro x1 x2 w y v h
  unfold x_change at h
  refine aw_enter rfl (Nat.le_of_ble_eq_true rfl) ?_
  show aw_AW l K MX11_change (d) 0 [(0, .inr (.inr 0)), (1, .inl x1), (2, .inl x2)] [] w (some (.inl y), v)
  refine aw_aload_n (pc := 0) (q := 0) dX11_change_0 rfl ?_
  refine aw_getf (pc := 1) (v := .inr (.inr 3)) dX11_change_1 fl_RX11_19 (by decide) rfl rfl rfl ?_
  refine aw_getf (pc := 4) (v := .inl (w 3 4)) dX11_change_4 fl_RX11_136 (by decide) rfl rfl rfl ?_
  refine aw_if_eq (pc := 7) (tgt := 19) dX11_change_7 (by decide) (fun hc => ?_) (fun hc => ?_)
  · rw [if_pos hc] at h
    exact aw_sel [] rfl (w_x_change_19 N d  _ _ _ h)
  · rw [if_neg hc] at h
    refine aw_iload_n (pc := 10) (q := 1) dX11_change_10 rfl ?_
    refine aw_if_lt (pc := 11) (tgt := 19) dX11_change_11 (by decide) (fun hc => ?_) (fun hc => ?_)
    · rw [if_pos hc] at h
      exact aw_sel [] rfl (w_x_change_19 N d  _ _ _ h)
    · rw [if_neg hc] at h
      refine aw_iload_n (pc := 14) (q := 1) dX11_change_14 rfl ?_
      refine aw_iconst (pc := 15) dX11_change_15 ⟨by decide, by decide⟩ ?_
      refine aw_icmp_lt (pc := 16) (tgt := 21) dX11_change_16 (by decide) (fun hc => ?_) (fun hc => ?_)
      · rw [if_pos hc] at h
        refine aw_iload_n (pc := 21) (q := 2) dX11_change_21 rfl ?_
        refine aw_gets (pc := 22) (j := 5) dX11_change_22 rfl fs_RX11_154 ?_
        refine aw_iload_n (pc := 25) (q := 1) dX11_change_25 rfl ?_
        obtain ⟨hb, h⟩ := aw_cks h
        refine aw_saldv (pc := 26) (j := 5) (v := (List.getD [1, 0, 0, 0, 0] (x1.toNat) 0 : Int)) dX11_change_26 rfl hb.1 hb.2 (aw_getD_I (by decide) _) rfl ?_
        refine aw_icmp_lt (pc := 27) (tgt := 39) dX11_change_27 (by decide) (fun hc => ?_) (fun hc => ?_)
        · rw [if_pos hc] at h
          exact aw_sel [] rfl (w_x_change_39 N d  _ _ _ h)
        · rw [if_neg hc] at h
          refine aw_iload_n (pc := 30) (q := 2) dX11_change_30 rfl ?_
          refine aw_gets (pc := 31) (j := 6) dX11_change_31 rfl fs_RX11_157 ?_
          refine aw_iload_n (pc := 34) (q := 1) dX11_change_34 rfl ?_
          obtain ⟨hb, h⟩ := aw_cks h
          refine aw_saldv (pc := 35) (j := 6) (v := (List.getD [6, 1, 2, 99, 9] (x1.toNat) 0 : Int)) dX11_change_35 rfl hb.1 hb.2 (aw_getD_I (by decide) _) rfl ?_
          refine aw_icmp_le (pc := 36) (tgt := 41) dX11_change_36 (by decide) (fun hc => ?_) (fun hc => ?_)
          · rw [if_pos hc] at h
            refine aw_aload_n (pc := 41) (q := 0) dX11_change_41 rfl ?_
            refine aw_getf (pc := 42) (v := .inr (.inr 3)) dX11_change_42 fl_RX11_19 (by decide) rfl rfl rfl ?_
            refine aw_getf (pc := 45) (v := .inr (.inr 5)) dX11_change_45 fl_RX11_151 (by decide) rfl rfl rfl ?_
            refine aw_iload_n (pc := 48) (q := 1) dX11_change_48 rfl ?_
            refine aw_iload_n (pc := 49) (q := 2) dX11_change_49 rfl ?_
            obtain ⟨hb, h⟩ := aw_cks h
            refine aw_iast (pc := 50) dX11_change_50 rfl hb.1 hb.2 ?_
            refine aw_aload_n (pc := 51) (q := 0) dX11_change_51 rfl ?_
            refine aw_getf (pc := 52) (v := .inr (.inr 23)) dX11_change_52 fl_RX11_54 (by decide) rfl rfl rfl ?_
            refine aw_iconst (pc := 55) dX11_change_55 ⟨by decide, by decide⟩ ?_
            refine aw_putz (pc := 56) dX11_change_56 fp_RX11_133 (by decide) rfl rfl (by decide) ?_
            refine aw_iconst (pc := 59) dX11_change_59 ⟨by decide, by decide⟩ ?_
            cases h
            exact aw_zret (pc := 60) rfl (by decide) dX11_change_60
          · rw [if_neg hc] at h
            exact aw_sel [] rfl (w_x_change_39 N d  _ _ _ h)
      · rw [if_neg hc] at h
        exact aw_sel [] rfl (w_x_change_19 N d  _ _ _ h)
theorem dX8_gainWith_0 : decode cX8_gainWith 0 = .ok (.aload_n 0, 1) := by decide +kernel
theorem dX8_gainWith_1 : decode cX8_gainWith 1 = .ok (.getfield 18, 3) := by decide +kernel
theorem dX8_gainWith_4 : decode cX8_gainWith 4 = .ok (.iload_n 1, 1) := by decide +kernel
theorem dX8_gainWith_5 : decode cX8_gainWith 5 = .ok (.iload_n 2, 1) := by decide +kernel
theorem dX8_gainWith_6 : decode cX8_gainWith 6 = .ok (.iastore, 1) := by decide +kernel
theorem dX8_gainWith_7 : decode cX8_gainWith 7 = .ok (.aload_n 0, 1) := by decide +kernel
theorem dX8_gainWith_8 : decode cX8_gainWith 8 = .ok (.invokevirtual 80, 3) := by decide +kernel
theorem dX8_gainWith_11 : decode cX8_gainWith 11 = .ok (.aload_n 0, 1) := by decide +kernel
theorem dX8_gainWith_12 : decode cX8_gainWith 12 = .ok (.iload_n 1, 1) := by decide +kernel
theorem dX8_gainWith_13 : decode cX8_gainWith 13 = .ok (.invokevirtual 83, 3) := by decide +kernel
theorem dX8_gainWith_16 : decode cX8_gainWith 16 = .ok (.ireturn, 1) := by decide +kernel
def x_Sale_gainWith (N : Nat) (x1 x2 : Int) (w : aw_W) : Option (Int × aw_W) :=
  if 0 ≤ x1 ∧ x1 < 6 then
    aw_b1 (x_Sale_settle N (aw_up w 21 x1.toNat x2)) fun w1 =>
      aw_b2 (x_Sale_gainOf N x1 w1) fun r2 w2 =>
        some (r2, w2)
  else none
theorem w_x_Sale_gainWith_d {l : Launch} {K : aw_K} (N d : Nat) (hd : 2 ≤ d) : ∀ (x1 x2 : Int) (w : aw_W) (y : Int) (v : aw_W), x_Sale_gainWith N x1 x2 w = some (y, v) → aw_Met l K MX8_gainWith (d + 1) [.inr (.inr 17), .inl x1, .inl x2] w (some (.inl y), v) := by
  intro x1 x2 w y v h
  unfold x_Sale_gainWith at h
  refine aw_enter rfl (Nat.le_of_ble_eq_true rfl) ?_
  show aw_AW l K MX8_gainWith (d + 1) 0 [(0, .inr (.inr 17)), (1, .inl x1), (2, .inl x2)] [] w (some (.inl y), v)
  refine aw_aload_n (pc := 0) (q := 0) dX8_gainWith_0 rfl ?_
  refine aw_getf (pc := 1) (v := .inr (.inr 21)) dX8_gainWith_1 fl_RX8_18 (by decide) rfl rfl rfl ?_
  refine aw_iload_n (pc := 4) (q := 1) dX8_gainWith_4 rfl ?_
  refine aw_iload_n (pc := 5) (q := 2) dX8_gainWith_5 rfl ?_
  obtain ⟨hb, h⟩ := aw_cks h
  refine aw_iast (pc := 6) dX8_gainWith_6 rfl hb.1 hb.2 ?_
  refine aw_aload_n (pc := 7) (q := 0) dX8_gainWith_7 rfl ?_
  obtain ⟨w1, h1, h⟩ := aw_b1s h
  refine aw_callV (pc := 8) (as := []) (st := []) (st' := []) dX8_gainWith_8 cv_RX8_80 (by decide) rfl rfl rfl rfl (Nat.le_of_ble_eq_true rfl) (w_x_Sale_settle N d (by omega) _ _ h1) rfl ?_
  refine aw_aload_n (pc := 11) (q := 0) dX8_gainWith_11 rfl ?_
  refine aw_iload_n (pc := 12) (q := 1) dX8_gainWith_12 rfl ?_
  obtain ⟨r2, w2, h2, h⟩ := aw_b2s h
  refine aw_callV (pc := 13) (as := [.inl x1]) (st := []) (st' := [.inl r2]) dX8_gainWith_13 cv_RX8_83 (by decide) rfl rfl rfl rfl (Nat.le_of_ble_eq_true rfl) (w_x_Sale_gainOf N d (by omega) _ _ _ _ h2) rfl ?_
  cases h
  exact aw_iret (pc := 16) rfl dX8_gainWith_16
theorem w_x_Sale_gainWith {l : Launch} {K : aw_K} (N d : Nat) (hd : 3 ≤ d) : ∀ (x1 x2 : Int) (w : aw_W) (y : Int) (v : aw_W), x_Sale_gainWith N x1 x2 w = some (y, v) → aw_Met l K MX8_gainWith (d) [.inr (.inr 17), .inl x1, .inl x2] w (some (.inl y), v) := by
  obtain ⟨e, rfl⟩ : ∃ e, d = e + 1 := ⟨d - 1, by omega⟩
  exact w_x_Sale_gainWith_d N e (by omega)
