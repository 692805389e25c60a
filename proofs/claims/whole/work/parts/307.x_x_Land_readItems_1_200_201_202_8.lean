def x_Land_readItems_1_200_201_202_8_128 (N : Nat) (w : aw_W) : Option (Int × aw_W) :=
  some (1, w)
theorem w_x_Land_readItems_1_200_201_202_8_128 {l : Launch} {K : aw_K} (N d : Nat) (hd : 0 ≤ d) : ∀ (w : aw_W) (y : Int) (v : aw_W), x_Land_readItems_1_200_201_202_8_128 N w = some (y, v) → aw_AW l K MX1_readItems (d + 1) 128 [] [] w (some (.inl y), v) := by
  intro w y v h
  unfold x_Land_readItems_1_200_201_202_8_128 at h
  refine aw_iconst (pc := 128) dX1_readItems_128 ⟨by decide, by decide⟩ ?_
  cases h
  exact aw_zret (pc := 129) rfl (by decide) dX1_readItems_129
def x_Land_readItems_1_200_201_202_8_100 (N : Nat) (w : aw_W) : Option (Int × aw_W) :=
  some (0, (aw_up w 1 2 (aw_w ((w 1 2) - 1))))
theorem w_x_Land_readItems_1_200_201_202_8_100 {l : Launch} {K : aw_K} (N d : Nat) (hd : 0 ≤ d) : ∀ (w : aw_W) (y : Int) (v : aw_W), x_Land_readItems_1_200_201_202_8_100 N w = some (y, v) → aw_AW l K MX1_readItems (d + 1) 100 [(0, .inr (.inr 1))] [] w (some (.inl y), v) := by
  intro w y v h
  unfold x_Land_readItems_1_200_201_202_8_100 at h
  refine aw_aload_n (pc := 100) (q := 0) dX1_readItems_100 rfl ?_
  refine aw_dup (pc := 101) dX1_readItems_101 rfl ?_
  refine aw_getf (pc := 102) (v := .inl (w 1 2)) dX1_readItems_102 fl_RX1_52 (by decide) rfl rfl rfl ?_
  refine aw_iconst (pc := 105) dX1_readItems_105 ⟨by decide, by decide⟩ ?_
  refine aw_isub (pc := 106) dX1_readItems_106 ?_
  refine aw_puti (pc := 107) dX1_readItems_107 fp_RX1_52 (by decide) rfl rfl ?_
  refine aw_iconst (pc := 110) dX1_readItems_110 ⟨by decide, by decide⟩ ?_
  cases h
  exact aw_zret (pc := 111) rfl (by decide) dX1_readItems_111
def x_Land_readItems_1_200_201_202_8_80 (N : Nat) (w : aw_W) : Option (Int × aw_W) :=
  some (0, w)
theorem w_x_Land_readItems_1_200_201_202_8_80 {l : Launch} {K : aw_K} (N d : Nat) (hd : 0 ≤ d) : ∀ (w : aw_W) (y : Int) (v : aw_W), x_Land_readItems_1_200_201_202_8_80 N w = some (y, v) → aw_AW l K MX1_readItems (d + 1) 80 [] [] w (some (.inl y), v) := by
  intro w y v h
  unfold x_Land_readItems_1_200_201_202_8_80 at h
  refine aw_iconst (pc := 80) dX1_readItems_80 ⟨by decide, by decide⟩ ?_
  cases h
  exact aw_zret (pc := 81) rfl (by decide) dX1_readItems_81
def x_Land_readItems_1_200_201_202_8_41 (N : Nat) (w : aw_W) : Option (Int × aw_W) :=
  some (0, w)
theorem w_x_Land_readItems_1_200_201_202_8_41 {l : Launch} {K : aw_K} (N d : Nat) (hd : 0 ≤ d) : ∀ (w : aw_W) (y : Int) (v : aw_W), x_Land_readItems_1_200_201_202_8_41 N w = some (y, v) → aw_AW l K MX1_readItems (d + 1) 41 [] [] w (some (.inl y), v) := by
  intro w y v h
  unfold x_Land_readItems_1_200_201_202_8_41 at h
  refine aw_iconst (pc := 41) dX1_readItems_41 ⟨by decide, by decide⟩ ?_
  cases h
  exact aw_zret (pc := 42) rfl (by decide) dX1_readItems_42
def x_Land_readItems_1_200_201_202_8_29 (N : Nat) (w : aw_W) : Option (Int × aw_W) :=
  some (1, w)
theorem w_x_Land_readItems_1_200_201_202_8_29 {l : Launch} {K : aw_K} (N d : Nat) (hd : 0 ≤ d) : ∀ (w : aw_W) (y : Int) (v : aw_W), x_Land_readItems_1_200_201_202_8_29 N w = some (y, v) → aw_AW l K MX1_readItems (d + 1) 29 [] [] w (some (.inl y), v) := by
  intro w y v h
  unfold x_Land_readItems_1_200_201_202_8_29 at h
  refine aw_iconst (pc := 29) dX1_readItems_29 ⟨by decide, by decide⟩ ?_
  cases h
  exact aw_zret (pc := 30) rfl (by decide) dX1_readItems_30
def x_Land_readItems_1_200_201_202_8_6 (N : Nat) : Nat → Int → Int → Int → aw_W → Option (Int × aw_W)
  | 0, _, _, _, _ => none
  | n + 1, x5, x6, x7, w =>
    if 4 < x7 then
      x_Land_readItems_1_200_201_202_8_128 N w
    else
      aw_b2 (x_Tape_sign N w) fun r1 w1 =>
        aw_b2 (x_indexIn_200 N r1 w1) fun r2 w2 =>
          if r2 = (-1) then
            x_Land_readItems_1_200_201_202_8_29 N w2
          else
            if (aw_and (aw_shr x6 r2) 1) = 0 then
              aw_b2 (x_Tape_sign N (aw_up w2 1 2 (aw_w ((w2 1 2) + 1)))) fun r3 w3 =>
                aw_b2 (x_Tape_number N 2 w3) fun r4 w4 =>
                  if r4 = (-1) then
                    x_Land_readItems_1_200_201_202_8_80 N w4
                  else
                    if 0 ≤ r2 ∧ r2 < 4 then
                      if r4 < (List.getD [1, 0, 0, 0] (r2.toNat) 0 : Int) then
                        x_Land_readItems_1_200_201_202_8_100 N w4
                      else
                        if 0 ≤ r2 ∧ r2 < 4 then
                          if r4 ≤ (List.getD [9, 99, 4, 9] (r2.toNat) 0 : Int) then
                            if 0 ≤ (aw_w (x5 + r2)) ∧ (aw_w (x5 + r2)) < 24 then
                              x_Land_readItems_1_200_201_202_8_6 N n x5 (aw_or x6 (aw_shl 1 r2)) (aw_w (x7 + 1)) (aw_up w4 8 ((aw_w (x5 + r2)).toNat) r4)
                            else none
                          else
                            x_Land_readItems_1_200_201_202_8_100 N w4
                        else none
                    else none
            else
              x_Land_readItems_1_200_201_202_8_41 N w2
theorem w_x_Land_readItems_1_200_201_202_8_6 {l : Launch} {K : aw_K} (N d : Nat) (hd : 0 ≤ d) : ∀ (n : Nat) (x5 x6 x7 : Int) (w : aw_W) (y : Int) (v : aw_W), x_Land_readItems_1_200_201_202_8_6 N n x5 x6 x7 w = some (y, v) → aw_AW l K MX1_readItems (d + 1) 6 [(0, .inr (.inr 1)), (1, .inr (.inr 200)), (2, .inr (.inr 201)), (3, .inr (.inr 202)), (4, .inr (.inr 8)), (5, .inl x5), (6, .inl x6), (7, .inl x7)] [] w (some (.inl y), v) := by
  intro n
  induction n with
  | zero => intro x5 x6 x7 w y v h; rw [x_Land_readItems_1_200_201_202_8_6] at h; cases h
  | succ n ih =>
    intro x5 x6 x7 w y v h
    rw [x_Land_readItems_1_200_201_202_8_6] at h
    refine aw_iload (pc := 6) (q := 7) dX1_readItems_6 rfl ?_
    refine aw_aload_n (pc := 8) (q := 1) dX1_readItems_8 rfl ?_
    refine aw_slen (pc := 9) (j := 0) (n := 4) dX1_readItems_9 rfl rfl ⟨by decide, by decide⟩ ?_
    refine aw_icmp_gt (pc := 10) (tgt := 128) dX1_readItems_10 (by decide) (fun hc => ?_) (fun hc => ?_)
    · rw [if_pos hc] at h
      exact aw_sel [] rfl (w_x_Land_readItems_1_200_201_202_8_128 N d hd  _ _ _ h)
    · rw [if_neg hc] at h
      refine aw_aload_n (pc := 13) (q := 1) dX1_readItems_13 rfl ?_
      refine aw_aload_n (pc := 14) (q := 0) dX1_readItems_14 rfl ?_
      obtain ⟨r1, w1, h1, h⟩ := aw_b2s h
      refine aw_callV (pc := 15) (as := []) (st := [.inr (.inr 200)]) (st' := [.inl r1, .inr (.inr 200)]) dX1_readItems_15 cv_RX1_64 (by decide) rfl rfl rfl rfl (Nat.le_of_ble_eq_true rfl) (w_x_Tape_sign N d (by omega) _ _ _ h1) rfl ?_
      obtain ⟨r2, w2, h2, h⟩ := aw_b2s h
      refine aw_callN (pc := 18) (as := [.inr (.inr 200), .inl r1]) (st := []) (st' := [.inl r2]) dX1_readItems_18 cn_RX1_92 rfl rfl (Nat.le_of_ble_eq_true rfl) (w_x_indexIn_200 N d (by omega) _ _ _ _ h2) rfl ?_
      refine aw_istore (pc := 21) (ls' := [(8, .inl r2), (0, .inr (.inr 1)), (1, .inr (.inr 200)), (2, .inr (.inr 201)), (3, .inr (.inr 202)), (4, .inr (.inr 8)), (5, .inl x5), (6, .inl x6), (7, .inl x7)]) dX1_readItems_21 (by decide) rfl ?_
      refine aw_iload (pc := 23) (q := 0) dX1_readItems_23 rfl ?_
      refine aw_iconst (pc := 25) dX1_readItems_25 ⟨by decide, by decide⟩ ?_
      refine aw_icmp_ne (pc := 26) (tgt := 31) dX1_readItems_26 (by decide) (fun hc => ?_) (fun hc => ?_)
      · rw [if_neg hc] at h
        refine aw_iload (pc := 31) (q := 7) dX1_readItems_31 rfl ?_
        refine aw_iload (pc := 33) (q := 0) dX1_readItems_33 rfl ?_
        refine aw_ishr (pc := 35) dX1_readItems_35 ?_
        refine aw_iconst (pc := 36) dX1_readItems_36 ⟨by decide, by decide⟩ ?_
        refine aw_iand (pc := 37) dX1_readItems_37 ?_
        refine aw_if_eq (pc := 38) (tgt := 43) dX1_readItems_38 (by decide) (fun hc => ?_) (fun hc => ?_)
        · rw [if_pos hc] at h
          refine aw_iload (pc := 43) (q := 7) dX1_readItems_43 rfl ?_
          refine aw_iconst (pc := 45) dX1_readItems_45 ⟨by decide, by decide⟩ ?_
          refine aw_iload (pc := 46) (q := 0) dX1_readItems_46 rfl ?_
          refine aw_ishl (pc := 48) dX1_readItems_48 ?_
          refine aw_ior (pc := 49) dX1_readItems_49 ?_
          refine aw_istore (pc := 50) (ls' := [(6, .inl (aw_or x6 (aw_shl 1 r2))), (8, .inl r2), (0, .inr (.inr 1)), (1, .inr (.inr 200)), (2, .inr (.inr 201)), (3, .inr (.inr 202)), (4, .inr (.inr 8)), (5, .inl x5), (7, .inl x7)]) dX1_readItems_50 (by decide) rfl ?_
          refine aw_aload_n (pc := 52) (q := 2) dX1_readItems_52 rfl ?_
          refine aw_dup (pc := 53) dX1_readItems_53 rfl ?_
          refine aw_getf (pc := 54) (v := .inl (w2 1 2)) dX1_readItems_54 fl_RX1_52 (by decide) rfl rfl rfl ?_
          refine aw_iconst (pc := 57) dX1_readItems_57 ⟨by decide, by decide⟩ ?_
          refine aw_iadd (pc := 58) dX1_readItems_58 ?_
          refine aw_puti (pc := 59) dX1_readItems_59 fp_RX1_52 (by decide) rfl rfl ?_
          refine aw_aload_n (pc := 62) (q := 2) dX1_readItems_62 rfl ?_
          obtain ⟨r3, w3, h3, h⟩ := aw_b2s h
          refine aw_callV (pc := 63) (as := []) (st := []) (st' := [.inl r3]) dX1_readItems_63 cv_RX1_64 (by decide) rfl rfl rfl rfl (Nat.le_of_ble_eq_true rfl) (w_x_Tape_sign N d (by omega) _ _ _ h3) rfl ?_
          refine aw_pop (pc := 66) dX1_readItems_66 rfl ?_
          refine aw_aload_n (pc := 67) (q := 2) dX1_readItems_67 rfl ?_
          refine aw_iconst (pc := 68) dX1_readItems_68 ⟨by decide, by decide⟩ ?_
          obtain ⟨r4, w4, h4, h⟩ := aw_b2s h
          refine aw_callV (pc := 69) (as := [.inl 2]) (st := []) (st' := [.inl r4]) dX1_readItems_69 cv_RX1_96 (by decide) rfl rfl rfl rfl (Nat.le_of_ble_eq_true rfl) (w_x_Tape_number N d (by omega) _ _ _ _ h4) rfl ?_
          refine aw_istore (pc := 72) (ls' := [(9, .inl r4), (6, .inl (aw_or x6 (aw_shl 1 r2))), (8, .inl r2), (0, .inr (.inr 1)), (1, .inr (.inr 200)), (2, .inr (.inr 201)), (3, .inr (.inr 202)), (4, .inr (.inr 8)), (5, .inl x5), (7, .inl x7)]) dX1_readItems_72 (by decide) rfl ?_
          refine aw_iload (pc := 74) (q := 0) dX1_readItems_74 rfl ?_
          refine aw_iconst (pc := 76) dX1_readItems_76 ⟨by decide, by decide⟩ ?_
          refine aw_icmp_ne (pc := 77) (tgt := 82) dX1_readItems_77 (by decide) (fun hc => ?_) (fun hc => ?_)
          · rw [if_neg hc] at h
            refine aw_iload (pc := 82) (q := 0) dX1_readItems_82 rfl ?_
            refine aw_aload_n (pc := 84) (q := 5) dX1_readItems_84 rfl ?_
            refine aw_iload (pc := 85) (q := 2) dX1_readItems_85 rfl ?_
            obtain ⟨hb, h⟩ := aw_cks h
            refine aw_saldv (pc := 87) (j := 1) (v := (List.getD [1, 0, 0, 0] (r2.toNat) 0 : Int)) dX1_readItems_87 rfl hb.1 hb.2 (aw_getD_I (by decide) _) rfl ?_
            refine aw_icmp_lt (pc := 88) (tgt := 100) dX1_readItems_88 (by decide) (fun hc => ?_) (fun hc => ?_)
            · rw [if_pos hc] at h
              exact aw_sel [3] rfl (w_x_Land_readItems_1_200_201_202_8_100 N d hd  _ _ _ h)
            · rw [if_neg hc] at h
              refine aw_iload (pc := 91) (q := 0) dX1_readItems_91 rfl ?_
              refine aw_aload_n (pc := 93) (q := 6) dX1_readItems_93 rfl ?_
              refine aw_iload (pc := 94) (q := 2) dX1_readItems_94 rfl ?_
              obtain ⟨hb, h⟩ := aw_cks h
              refine aw_saldv (pc := 96) (j := 2) (v := (List.getD [9, 99, 4, 9] (r2.toNat) 0 : Int)) dX1_readItems_96 rfl hb.1 hb.2 (aw_getD_I (by decide) _) rfl ?_
              refine aw_icmp_le (pc := 97) (tgt := 112) dX1_readItems_97 (by decide) (fun hc => ?_) (fun hc => ?_)
              · rw [if_pos hc] at h
                refine aw_aload (pc := 112) (q := 7) dX1_readItems_112 rfl ?_
                refine aw_iload (pc := 114) (q := 8) dX1_readItems_114 rfl ?_
                refine aw_iload (pc := 116) (q := 2) dX1_readItems_116 rfl ?_
                refine aw_iadd (pc := 118) dX1_readItems_118 ?_
                refine aw_iload (pc := 119) (q := 0) dX1_readItems_119 rfl ?_
                obtain ⟨hb, h⟩ := aw_cks h
                refine aw_iast (pc := 121) dX1_readItems_121 rfl hb.1 hb.2 ?_
                refine aw_iinc (pc := 122) (q := 9) (ls' := [(7, .inl (aw_w (x7 + 1))), (9, .inl r4), (6, .inl (aw_or x6 (aw_shl 1 r2))), (8, .inl r2), (0, .inr (.inr 1)), (1, .inr (.inr 200)), (2, .inr (.inr 201)), (3, .inr (.inr 202)), (4, .inr (.inr 8)), (5, .inl x5)]) dX1_readItems_122 rfl (by decide) rfl ?_
                refine aw_goto (pc := 125) (tgt := 6) dX1_readItems_125 (by decide) ?_
                exact aw_sel [4, 5, 6, 7, 8, 9, 2, 0] rfl (ih _ _ _ _ _ _ h)
              · rw [if_neg hc] at h
                exact aw_sel [3] rfl (w_x_Land_readItems_1_200_201_202_8_100 N d hd  _ _ _ h)
          · rw [if_pos hc] at h
            exact aw_sel [] rfl (w_x_Land_readItems_1_200_201_202_8_80 N d hd  _ _ _ h)
        · rw [if_neg hc] at h
          exact aw_sel [] rfl (w_x_Land_readItems_1_200_201_202_8_41 N d hd  _ _ _ h)
      · rw [if_pos hc] at h
        exact aw_sel [] rfl (w_x_Land_readItems_1_200_201_202_8_29 N d hd  _ _ _ h)
def x_Land_readItems_1_200_201_202_8 (N : Nat) (x5 : Int) (w : aw_W) : Option (Int × aw_W) :=
  x_Land_readItems_1_200_201_202_8_6 N N x5 0 0 w
theorem w_x_Land_readItems_1_200_201_202_8_d {l : Launch} {K : aw_K} (N d : Nat) (hd : 0 ≤ d) : ∀ (x5 : Int) (w : aw_W) (y : Int) (v : aw_W), x_Land_readItems_1_200_201_202_8 N x5 w = some (y, v) → aw_Met l K MX1_readItems (d + 1) [.inr (.inr 1), .inr (.inr 200), .inr (.inr 201), .inr (.inr 202), .inr (.inr 8), .inl x5] w (some (.inl y), v) := by
  intro x5 w y v h
  unfold x_Land_readItems_1_200_201_202_8 at h
  refine aw_enter rfl (Nat.le_of_ble_eq_true rfl) ?_
  show aw_AW l K MX1_readItems (d + 1) 0 [(0, .inr (.inr 1)), (1, .inr (.inr 200)), (2, .inr (.inr 201)), (3, .inr (.inr 202)), (4, .inr (.inr 8)), (5, .inl x5)] [] w (some (.inl y), v)
  refine aw_iconst (pc := 0) dX1_readItems_0 ⟨by decide, by decide⟩ ?_
  refine aw_istore (pc := 1) (ls' := [(6, .inl 0), (0, .inr (.inr 1)), (1, .inr (.inr 200)), (2, .inr (.inr 201)), (3, .inr (.inr 202)), (4, .inr (.inr 8)), (5, .inl x5)]) dX1_readItems_1 (by decide) rfl ?_
  refine aw_iconst (pc := 3) dX1_readItems_3 ⟨by decide, by decide⟩ ?_
  refine aw_istore (pc := 4) (ls' := [(7, .inl 0), (6, .inl 0), (0, .inr (.inr 1)), (1, .inr (.inr 200)), (2, .inr (.inr 201)), (3, .inr (.inr 202)), (4, .inr (.inr 8)), (5, .inl x5)]) dX1_readItems_4 (by decide) rfl ?_
  exact aw_sel [2, 3, 4, 5, 6, 7, 1, 0] rfl (w_x_Land_readItems_1_200_201_202_8_6 N d hd  N _ _ _ _ _ _ h)
theorem w_x_Land_readItems_1_200_201_202_8 {l : Launch} {K : aw_K} (N d : Nat) (hd : 1 ≤ d) : ∀ (x5 : Int) (w : aw_W) (y : Int) (v : aw_W), x_Land_readItems_1_200_201_202_8 N x5 w = some (y, v) → aw_Met l K MX1_readItems (d) [.inr (.inr 1), .inr (.inr 200), .inr (.inr 201), .inr (.inr 202), .inr (.inr 8), .inl x5] w (some (.inl y), v) := by
  obtain ⟨e, rfl⟩ : ∃ e, d = e + 1 := ⟨d - 1, by omega⟩
  exact w_x_Land_readItems_1_200_201_202_8_d N e (by omega)
theorem dX1_readClause_0 : decode cX1_readClause 0 = .ok (.aload_n 1, 1) := by decide +kernel
theorem dX1_readClause_1 : decode cX1_readClause 1 = .ok (.invokevirtual 64, 3) := by decide +kernel
theorem dX1_readClause_4 : decode cX1_readClause 4 = .ok (.istore_n 2, 1) := by decide +kernel
theorem dX1_readClause_5 : decode cX1_readClause 5 = .ok (.iload_n 2, 1) := by decide +kernel
theorem dX1_readClause_6 : decode cX1_readClause 6 = .ok (.bipush 115, 2) := by decide +kernel
theorem dX1_readClause_8 : decode cX1_readClause 8 = .ok (.if_icmp .ne 71, 3) := by decide +kernel
theorem dX1_readClause_11 : decode cX1_readClause 11 = .ok (.aload_n 0, 1) := by decide +kernel
theorem dX1_readClause_12 : decode cX1_readClause 12 = .ok (.getfield 21, 3) := by decide +kernel
theorem dX1_readClause_15 : decode cX1_readClause 15 = .ok (.bipush 6, 2) := by decide +kernel
theorem dX1_readClause_17 : decode cX1_readClause 17 = .ok (.if_icmp .ge 62, 3) := by decide +kernel
theorem dX1_readClause_20 : decode cX1_readClause 20 = .ok (.aload_n 1, 1) := by decide +kernel
theorem dX1_readClause_21 : decode cX1_readClause 21 = .ok (.dup, 1) := by decide +kernel
theorem dX1_readClause_22 : decode cX1_readClause 22 = .ok (.getfield 52, 3) := by decide +kernel
theorem dX1_readClause_25 : decode cX1_readClause 25 = .ok (.iconst 1, 1) := by decide +kernel
theorem dX1_readClause_26 : decode cX1_readClause 26 = .ok (.iadd, 1) := by decide +kernel
theorem dX1_readClause_27 : decode cX1_readClause 27 = .ok (.putfield 52, 3) := by decide +kernel
theorem dX1_readClause_30 : decode cX1_readClause 30 = .ok (.aload_n 0, 1) := by decide +kernel
theorem dX1_readClause_31 : decode cX1_readClause 31 = .ok (.getfield 21, 3) := by decide +kernel
theorem dX1_readClause_34 : decode cX1_readClause 34 = .ok (.iconst 4, 1) := by decide +kernel
theorem dX1_readClause_35 : decode cX1_readClause 35 = .ok (.imul, 1) := by decide +kernel
theorem dX1_readClause_36 : decode cX1_readClause 36 = .ok (.istore_n 3, 1) := by decide +kernel
theorem dX1_readClause_37 : decode cX1_readClause 37 = .ok (.aload_n 0, 1) := by decide +kernel
theorem dX1_readClause_38 : decode cX1_readClause 38 = .ok (.dup, 1) := by decide +kernel
theorem dX1_readClause_39 : decode cX1_readClause 39 = .ok (.getfield 21, 3) := by decide +kernel
theorem dX1_readClause_42 : decode cX1_readClause 42 = .ok (.iconst 1, 1) := by decide +kernel
theorem dX1_readClause_43 : decode cX1_readClause 43 = .ok (.iadd, 1) := by decide +kernel
theorem dX1_readClause_44 : decode cX1_readClause 44 = .ok (.putfield 21, 3) := by decide +kernel
theorem dX1_readClause_47 : decode cX1_readClause 47 = .ok (.getstatic 67, 3) := by decide +kernel
theorem dX1_readClause_50 : decode cX1_readClause 50 = .ok (.iconst 0, 1) := by decide +kernel
theorem dX1_readClause_51 : decode cX1_readClause 51 = .ok (.aload_n 0, 1) := by decide +kernel
theorem dX1_readClause_52 : decode cX1_readClause 52 = .ok (.getfield 9, 3) := by decide +kernel
theorem dX1_readClause_55 : decode cX1_readClause 55 = .ok (.iload_n 3, 1) := by decide +kernel
theorem dX1_readClause_56 : decode cX1_readClause 56 = .ok (.iconst 4, 1) := by decide +kernel
theorem dX1_readClause_57 : decode cX1_readClause 57 = .ok (.invokestatic 33, 3) := by decide +kernel
theorem dX1_readClause_60 : decode cX1_readClause 60 = .ok (.aload_n 1, 1) := by decide +kernel
theorem dX1_readClause_61 : decode cX1_readClause 61 = .ok (.getstatic 70, 3) := by decide +kernel
theorem dX1_readClause_64 : decode cX1_readClause 64 = .ok (.getstatic 73, 3) := by decide +kernel
theorem dX1_readClause_67 : decode cX1_readClause 67 = .ok (.getstatic 76, 3) := by decide +kernel
theorem dX1_readClause_70 : decode cX1_readClause 70 = .ok (.aload_n 0, 1) := by decide +kernel
theorem dX1_readClause_71 : decode cX1_readClause 71 = .ok (.getfield 9, 3) := by decide +kernel
theorem dX1_readClause_74 : decode cX1_readClause 74 = .ok (.iload_n 3, 1) := by decide +kernel
theorem dX1_readClause_75 : decode cX1_readClause 75 = .ok (.invokestatic 79, 3) := by decide +kernel
theorem dX1_readClause_78 : decode cX1_readClause 78 = .ok (.ireturn, 1) := by decide +kernel
theorem dX1_readClause_79 : decode cX1_readClause 79 = .ok (.iload_n 2, 1) := by decide +kernel
theorem dX1_readClause_80 : decode cX1_readClause 80 = .ok (.bipush 108, 2) := by decide +kernel
theorem dX1_readClause_82 : decode cX1_readClause 82 = .ok (.if_icmp .ne 44, 3) := by decide +kernel
theorem dX1_readClause_85 : decode cX1_readClause 85 = .ok (.aload_n 0, 1) := by decide +kernel
theorem dX1_readClause_86 : decode cX1_readClause 86 = .ok (.getfield 45, 3) := by decide +kernel
theorem dX1_readClause_89 : decode cX1_readClause 89 = .ok (.ifCond .ne 37, 3) := by decide +kernel
theorem dX1_readClause_92 : decode cX1_readClause 92 = .ok (.aload_n 1, 1) := by decide +kernel
theorem dX1_readClause_93 : decode cX1_readClause 93 = .ok (.dup, 1) := by decide +kernel
theorem dX1_readClause_94 : decode cX1_readClause 94 = .ok (.getfield 52, 3) := by decide +kernel
theorem dX1_readClause_97 : decode cX1_readClause 97 = .ok (.iconst 1, 1) := by decide +kernel
theorem dX1_readClause_98 : decode cX1_readClause 98 = .ok (.iadd, 1) := by decide +kernel
theorem dX1_readClause_99 : decode cX1_readClause 99 = .ok (.putfield 52, 3) := by decide +kernel
theorem dX1_readClause_102 : decode cX1_readClause 102 = .ok (.aload_n 0, 1) := by decide +kernel
theorem dX1_readClause_103 : decode cX1_readClause 103 = .ok (.iconst 1, 1) := by decide +kernel
theorem dX1_readClause_104 : decode cX1_readClause 104 = .ok (.putfield 45, 3) := by decide +kernel
theorem dX1_readClause_107 : decode cX1_readClause 107 = .ok (.aload_n 1, 1) := by decide +kernel
theorem dX1_readClause_108 : decode cX1_readClause 108 = .ok (.getstatic 83, 3) := by decide +kernel
theorem dX1_readClause_111 : decode cX1_readClause 111 = .ok (.getstatic 86, 3) := by decide +kernel
theorem dX1_readClause_114 : decode cX1_readClause 114 = .ok (.getstatic 89, 3) := by decide +kernel
theorem dX1_readClause_117 : decode cX1_readClause 117 = .ok (.aload_n 0, 1) := by decide +kernel
theorem dX1_readClause_118 : decode cX1_readClause 118 = .ok (.getfield 15, 3) := by decide +kernel
theorem dX1_readClause_121 : decode cX1_readClause 121 = .ok (.iconst 0, 1) := by decide +kernel
theorem dX1_readClause_122 : decode cX1_readClause 122 = .ok (.invokestatic 79, 3) := by decide +kernel
theorem dX1_readClause_125 : decode cX1_readClause 125 = .ok (.ireturn, 1) := by decide +kernel
theorem dX1_readClause_126 : decode cX1_readClause 126 = .ok (.iconst 0, 1) := by decide +kernel
theorem dX1_readClause_127 : decode cX1_readClause 127 = .ok (.ireturn, 1) := by decide +kernel
def x_Land_readClause_126 (N : Nat) (w : aw_W) : Option (Int × aw_W) :=
  some (0, w)
theorem w_x_Land_readClause_126 {l : Launch} {K : aw_K} (N d : Nat) (hd : 1 ≤ d) : ∀ (w : aw_W) (y : Int) (v : aw_W), x_Land_readClause_126 N w = some (y, v) → aw_AW l K MX1_readClause (d + 1) 126 [] [] w (some (.inl y), v) := by
  intro w y v h
  unfold x_Land_readClause_126 at h
  refine aw_iconst (pc := 126) dX1_readClause_126 ⟨by decide, by decide⟩ ?_
  cases h
  exact aw_zret (pc := 127) rfl (by decide) dX1_readClause_127
def x_Land_readClause_79 (N : Nat) (x2 : Int) (w : aw_W) : Option (Int × aw_W) :=
  if x2 = 108 then
    if (w 7 3) = 0 then
      aw_b2 (x_Land_readItems N 0 (aw_up (aw_up w 1 2 (aw_w ((w 1 2) + 1))) 7 3 1)) fun r1 w1 =>
        if r1 = 0 ∨ r1 = 1 then
          some (r1, w1)
        else none
    else
      x_Land_readClause_126 N w
  else
    x_Land_readClause_126 N w
theorem w_x_Land_readClause_79 {l : Launch} {K : aw_K} (N d : Nat) (hd : 1 ≤ d) : ∀ (x2 : Int) (w : aw_W) (y : Int) (v : aw_W), x_Land_readClause_79 N x2 w = some (y, v) → aw_AW l K MX1_readClause (d + 1) 79 [(0, .inr (.inr 7)), (1, .inr (.inr 1)), (2, .inl x2)] [] w (some (.inl y), v) := by
  intro x2 w y v h
  unfold x_Land_readClause_79 at h
  refine aw_iload_n (pc := 79) (q := 2) dX1_readClause_79 rfl ?_
  refine aw_bipush (pc := 80) dX1_readClause_80 (by decide) ⟨by decide, by decide⟩ ?_
  refine aw_icmp_ne (pc := 82) (tgt := 126) dX1_readClause_82 (by decide) (fun hc => ?_) (fun hc => ?_)
  · rw [if_neg hc] at h
    exact aw_sel [] rfl (w_x_Land_readClause_126 N d hd  _ _ _ h)
  · rw [if_pos hc] at h
    refine aw_aload_n (pc := 85) (q := 0) dX1_readClause_85 rfl ?_
    refine aw_getf (pc := 86) (v := .inl (w 7 3)) dX1_readClause_86 fl_RX1_45 (by decide) rfl rfl rfl ?_
    refine aw_if_ne (pc := 89) (tgt := 126) dX1_readClause_89 (by decide) (fun hc => ?_) (fun hc => ?_)
    · rw [if_neg hc] at h
      exact aw_sel [] rfl (w_x_Land_readClause_126 N d hd  _ _ _ h)
    · rw [if_pos hc] at h
      refine aw_aload_n (pc := 92) (q := 1) dX1_readClause_92 rfl ?_
      refine aw_dup (pc := 93) dX1_readClause_93 rfl ?_
      refine aw_getf (pc := 94) (v := .inl (w 1 2)) dX1_readClause_94 fl_RX1_52 (by decide) rfl rfl rfl ?_
      refine aw_iconst (pc := 97) dX1_readClause_97 ⟨by decide, by decide⟩ ?_
      refine aw_iadd (pc := 98) dX1_readClause_98 ?_
      refine aw_puti (pc := 99) dX1_readClause_99 fp_RX1_52 (by decide) rfl rfl ?_
      refine aw_aload_n (pc := 102) (q := 0) dX1_readClause_102 rfl ?_
      refine aw_iconst (pc := 103) dX1_readClause_103 ⟨by decide, by decide⟩ ?_
      refine aw_putz (pc := 104) dX1_readClause_104 fp_RX1_45 (by decide) rfl rfl (by decide) ?_
      refine aw_aload_n (pc := 107) (q := 1) dX1_readClause_107 rfl ?_
      refine aw_getsN (pc := 108) (j := 4) dX1_readClause_108 rfl fn_RX1_83 ?_
      refine aw_getsN (pc := 111) (j := 5) dX1_readClause_111 rfl fn_RX1_86 ?_
      refine aw_getsN (pc := 114) (j := 6) dX1_readClause_114 rfl fn_RX1_89 ?_
      refine aw_aload_n (pc := 117) (q := 0) dX1_readClause_117 rfl ?_
      refine aw_getf (pc := 118) (v := .inr (.inr 9)) dX1_readClause_118 fl_RX1_15 (by decide) rfl rfl rfl ?_
      refine aw_iconst (pc := 121) dX1_readClause_121 ⟨by decide, by decide⟩ ?_
      obtain ⟨r1, w1, h1, h⟩ := aw_b2s h
      refine aw_callS (pc := 122) (as := [.inr (.inr 1), .inr (.inr 204), .inr (.inr 205), .inr (.inr 206), .inr (.inr 9), .inl 0]) (st := []) (st' := [.inl r1]) dX1_readClause_122 cs_RX1_79 rfl rfl (Nat.le_of_ble_eq_true rfl) (w_x_Land_readItems N d (by omega) _ _ _ _ h1) rfl ?_
      obtain ⟨hz, h⟩ := aw_cks h
      cases h
      exact aw_zret (pc := 125) rfl hz dX1_readClause_125
def x_Land_readClause (N : Nat) (w : aw_W) : Option (Int × aw_W) :=
  aw_b2 (x_Tape_sign N w) fun r1 w1 =>
    if r1 = 115 then
      if 6 ≤ (w1 7 4) then
        x_Land_readClause_79 N r1 w1
      else
        if (0 : Int) ≤ 0 ∧ (0 : Int) ≤ (aw_w ((w1 7 4) * 4)) ∧ (0 : Int) ≤ 4 ∧ ((0 + 4 : Int)) ≤ 4 ∧ (((aw_w ((w1 7 4) * 4)) + 4 : Int)) ≤ 24 then
          aw_b2 (x_Land_readItems_1_200_201_202_8 N (aw_w ((w1 7 4) * 4)) (aw_cpy (fun x => List.getD [3, 10, 0, 0] x 0) (aw_up (aw_up w1 1 2 (aw_w ((w1 1 2) + 1))) 7 4 (aw_w ((w1 7 4) + 1))) 8 0 ((aw_w ((w1 7 4) * 4)).toNat) 4)) fun r2 w2 =>
            if r2 = 0 ∨ r2 = 1 then
              some (r2, w2)
            else none
        else none
    else
      x_Land_readClause_79 N r1 w1
theorem w_x_Land_readClause_d {l : Launch} {K : aw_K} (N d : Nat) (hd : 1 ≤ d) : ∀ (w : aw_W) (y : Int) (v : aw_W), x_Land_readClause N w = some (y, v) → aw_Met l K MX1_readClause (d + 1) [.inr (.inr 7), .inr (.inr 1)] w (some (.inl y), v) := by
  intro w y v h
  unfold x_Land_readClause at h
  refine aw_enter rfl (Nat.le_of_ble_eq_true rfl) ?_
  show aw_AW l K MX1_readClause (d + 1) 0 [(0, .inr (.inr 7)), (1, .inr (.inr 1))] [] w (some (.inl y), v)
  refine aw_aload_n (pc := 0) (q := 1) dX1_readClause_0 rfl ?_
  obtain ⟨r1, w1, h1, h⟩ := aw_b2s h
  refine aw_callV (pc := 1) (as := []) (st := []) (st' := [.inl r1]) dX1_readClause_1 cv_RX1_64 (by decide) rfl rfl rfl rfl (Nat.le_of_ble_eq_true rfl) (w_x_Tape_sign N d (by omega) _ _ _ h1) rfl ?_
  refine aw_istore_n (pc := 4) (ls' := [(2, .inl r1), (0, .inr (.inr 7)), (1, .inr (.inr 1))]) dX1_readClause_4 (by decide) rfl ?_
  refine aw_iload_n (pc := 5) (q := 0) dX1_readClause_5 rfl ?_
  refine aw_bipush (pc := 6) dX1_readClause_6 (by decide) ⟨by decide, by decide⟩ ?_
  refine aw_icmp_ne (pc := 8) (tgt := 79) dX1_readClause_8 (by decide) (fun hc => ?_) (fun hc => ?_)
  · rw [if_neg hc] at h
    exact aw_sel [1, 2, 0] rfl (w_x_Land_readClause_79 N d hd  _ _ _ _ h)
  · rw [if_pos hc] at h
    refine aw_aload_n (pc := 11) (q := 1) dX1_readClause_11 rfl ?_
    refine aw_getf (pc := 12) (v := .inl (w1 7 4)) dX1_readClause_12 fl_RX1_21 (by decide) rfl rfl rfl ?_
    refine aw_bipush (pc := 15) dX1_readClause_15 (by decide) ⟨by decide, by decide⟩ ?_
    refine aw_icmp_ge (pc := 17) (tgt := 79) dX1_readClause_17 (by decide) (fun hc => ?_) (fun hc => ?_)
    · rw [if_pos hc] at h
      exact aw_sel [1, 2, 0] rfl (w_x_Land_readClause_79 N d hd  _ _ _ _ h)
    · rw [if_neg hc] at h
      refine aw_aload_n (pc := 20) (q := 2) dX1_readClause_20 rfl ?_
      refine aw_dup (pc := 21) dX1_readClause_21 rfl ?_
      refine aw_getf (pc := 22) (v := .inl (w1 1 2)) dX1_readClause_22 fl_RX1_52 (by decide) rfl rfl rfl ?_
      refine aw_iconst (pc := 25) dX1_readClause_25 ⟨by decide, by decide⟩ ?_
      refine aw_iadd (pc := 26) dX1_readClause_26 ?_
      refine aw_puti (pc := 27) dX1_readClause_27 fp_RX1_52 (by decide) rfl rfl ?_
      refine aw_aload_n (pc := 30) (q := 1) dX1_readClause_30 rfl ?_
      refine aw_getf (pc := 31) (v := .inl (w1 7 4)) dX1_readClause_31 fl_RX1_21 (by decide) rfl rfl rfl ?_
      refine aw_iconst (pc := 34) dX1_readClause_34 ⟨by decide, by decide⟩ ?_
      refine aw_imul (pc := 35) dX1_readClause_35 ?_
      refine aw_istore_n (pc := 36) (ls' := [(3, .inl (aw_w ((w1 7 4) * 4))), (2, .inl r1), (0, .inr (.inr 7)), (1, .inr (.inr 1))]) dX1_readClause_36 (by decide) rfl ?_
      refine aw_aload_n (pc := 37) (q := 2) dX1_readClause_37 rfl ?_
      refine aw_dup (pc := 38) dX1_readClause_38 rfl ?_
      refine aw_getf (pc := 39) (v := .inl (w1 7 4)) dX1_readClause_39 fl_RX1_21 (by decide) rfl rfl rfl ?_
      refine aw_iconst (pc := 42) dX1_readClause_42 ⟨by decide, by decide⟩ ?_
      refine aw_iadd (pc := 43) dX1_readClause_43 ?_
      refine aw_puti (pc := 44) dX1_readClause_44 fp_RX1_21 (by decide) rfl rfl ?_
      refine aw_getsN (pc := 47) (j := 3) dX1_readClause_47 rfl fn_RX1_67 ?_
      refine aw_iconst (pc := 50) dX1_readClause_50 ⟨by decide, by decide⟩ ?_
      refine aw_aload_n (pc := 51) (q := 2) dX1_readClause_51 rfl ?_
      refine aw_getf (pc := 52) (v := .inr (.inr 8)) dX1_readClause_52 fl_RX1_9 (by decide) rfl rfl rfl ?_
      refine aw_iload_n (pc := 55) (q := 0) dX1_readClause_55 rfl ?_
      refine aw_iconst (pc := 56) dX1_readClause_56 ⟨by decide, by decide⟩ ?_
      obtain ⟨hb, h⟩ := aw_cks h
      refine aw_copyS (pc := 57) (j := 3) dX1_readClause_57 cc_RX1_33 rfl (aw_getD_I (by decide)) rfl (by decide) hb.1 hb.2.1 hb.2.2.1 hb.2.2.2.1 hb.2.2.2.2 (Nat.le_of_ble_eq_true rfl) ?_
      refine aw_aload_n (pc := 60) (q := 3) dX1_readClause_60 rfl ?_
      refine aw_getsN (pc := 61) (j := 0) dX1_readClause_61 rfl fn_RX1_70 ?_
      refine aw_getsN (pc := 64) (j := 1) dX1_readClause_64 rfl fn_RX1_73 ?_
      refine aw_getsN (pc := 67) (j := 2) dX1_readClause_67 rfl fn_RX1_76 ?_
      refine aw_aload_n (pc := 70) (q := 2) dX1_readClause_70 rfl ?_
      refine aw_getf (pc := 71) (v := .inr (.inr 8)) dX1_readClause_71 fl_RX1_9 (by decide) rfl rfl rfl ?_
      refine aw_iload_n (pc := 74) (q := 0) dX1_readClause_74 rfl ?_
      obtain ⟨r2, w2, h2, h⟩ := aw_b2s h
      refine aw_callS (pc := 75) (as := [.inr (.inr 1), .inr (.inr 200), .inr (.inr 201), .inr (.inr 202), .inr (.inr 8), .inl (aw_w ((w1 7 4) * 4))]) (st := []) (st' := [.inl r2]) dX1_readClause_75 cs_RX1_79 rfl rfl (Nat.le_of_ble_eq_true rfl) (w_x_Land_readItems_1_200_201_202_8 N d (by omega) _ _ _ _ h2) rfl ?_
      obtain ⟨hz, h⟩ := aw_cks h
      cases h
      exact aw_zret (pc := 78) rfl hz dX1_readClause_78
theorem w_x_Land_readClause {l : Launch} {K : aw_K} (N d : Nat) (hd : 2 ≤ d) : ∀ (w : aw_W) (y : Int) (v : aw_W), x_Land_readClause N w = some (y, v) → aw_Met l K MX1_readClause (d) [.inr (.inr 7), .inr (.inr 1)] w (some (.inl y), v) := by
  obtain ⟨e, rfl⟩ : ∃ e, d = e + 1 := ⟨d - 1, by omega⟩
  exact w_x_Land_readClause_d N e (by omega)
theorem dX1_read_0 : decode cX1_read 0 = .ok (.aload_n 0, 1) := by decide +kernel
theorem dX1_read_1 : decode cX1_read 1 = .ok (.iconst 0, 1) := by decide +kernel
theorem dX1_read_2 : decode cX1_read 2 = .ok (.putfield 21, 3) := by decide +kernel
theorem dX1_read_5 : decode cX1_read 5 = .ok (.aload_n 0, 1) := by decide +kernel
theorem dX1_read_6 : decode cX1_read 6 = .ok (.iconst 0, 1) := by decide +kernel
theorem dX1_read_7 : decode cX1_read 7 = .ok (.putfield 45, 3) := by decide +kernel
theorem dX1_read_10 : decode cX1_read 10 = .ok (.getstatic 49, 3) := by decide +kernel
theorem dX1_read_13 : decode cX1_read 13 = .ok (.iconst 0, 1) := by decide +kernel
theorem dX1_read_14 : decode cX1_read 14 = .ok (.aload_n 0, 1) := by decide +kernel
theorem dX1_read_15 : decode cX1_read 15 = .ok (.getfield 15, 3) := by decide +kernel
theorem dX1_read_18 : decode cX1_read 18 = .ok (.iconst 0, 1) := by decide +kernel
theorem dX1_read_19 : decode cX1_read 19 = .ok (.iconst 5, 1) := by decide +kernel
theorem dX1_read_20 : decode cX1_read 20 = .ok (.invokestatic 33, 3) := by decide +kernel
theorem dX1_read_23 : decode cX1_read 23 = .ok (.aload_n 1, 1) := by decide +kernel
theorem dX1_read_24 : decode cX1_read 24 = .ok (.iconst 0, 1) := by decide +kernel
theorem dX1_read_25 : decode cX1_read 25 = .ok (.putfield 52, 3) := by decide +kernel
theorem dX1_read_28 : decode cX1_read 28 = .ok (.iconst 1, 1) := by decide +kernel
theorem dX1_read_29 : decode cX1_read 29 = .ok (.istore_n 2, 1) := by decide +kernel
theorem dX1_read_30 : decode cX1_read 30 = .ok (.iconst 0, 1) := by decide +kernel
theorem dX1_read_31 : decode cX1_read 31 = .ok (.istore_n 3, 1) := by decide +kernel
theorem dX1_read_32 : decode cX1_read 32 = .ok (.iload_n 2, 1) := by decide +kernel
theorem dX1_read_33 : decode cX1_read 33 = .ok (.ifCond .eq 36, 3) := by decide +kernel
theorem dX1_read_36 : decode cX1_read 36 = .ok (.iload_n 3, 1) := by decide +kernel
theorem dX1_read_37 : decode cX1_read 37 = .ok (.sipush 160, 3) := by decide +kernel
theorem dX1_read_40 : decode cX1_read 40 = .ok (.if_icmp .ge 29, 3) := by decide +kernel
theorem dX1_read_43 : decode cX1_read 43 = .ok (.aload_n 0, 1) := by decide +kernel
theorem dX1_read_44 : decode cX1_read 44 = .ok (.aload_n 1, 1) := by decide +kernel
theorem dX1_read_45 : decode cX1_read 45 = .ok (.invokevirtual 57, 3) := by decide +kernel
theorem dX1_read_48 : decode cX1_read 48 = .ok (.ifCond .ne 8, 3) := by decide +kernel
theorem dX1_read_51 : decode cX1_read 51 = .ok (.aload_n 1, 1) := by decide +kernel
theorem dX1_read_52 : decode cX1_read 52 = .ok (.getfield 52, 3) := by decide +kernel
theorem dX1_read_55 : decode cX1_read 55 = .ok (.ireturn, 1) := by decide +kernel
theorem dX1_read_56 : decode cX1_read 56 = .ok (.aload_n 1, 1) := by decide +kernel
theorem dX1_read_57 : decode cX1_read 57 = .ok (.bipush 59, 2) := by decide +kernel
theorem dX1_read_59 : decode cX1_read 59 = .ok (.invokevirtual 61, 3) := by decide +kernel
theorem dX1_read_62 : decode cX1_read 62 = .ok (.istore_n 2, 1) := by decide +kernel
theorem dX1_read_63 : decode cX1_read 63 = .ok (.iinc 3 1, 3) := by decide +kernel
theorem dX1_read_66 : decode cX1_read 66 = .ok (.goto (-34), 3) := by decide +kernel
theorem dX1_read_69 : decode cX1_read 69 = .ok (.aload_n 1, 1) := by decide +kernel
theorem dX1_read_70 : decode cX1_read 70 = .ok (.invokevirtual 64, 3) := by decide +kernel
theorem dX1_read_73 : decode cX1_read 73 = .ok (.ifCond .ne 11, 3) := by decide +kernel
theorem dX1_read_76 : decode cX1_read 76 = .ok (.aload_n 0, 1) := by decide +kernel
theorem dX1_read_77 : decode cX1_read 77 = .ok (.getfield 21, 3) := by decide +kernel
theorem dX1_read_80 : decode cX1_read 80 = .ok (.iconst 2, 1) := by decide +kernel
theorem dX1_read_81 : decode cX1_read 81 = .ok (.if_icmp .ge 10, 3) := by decide +kernel
theorem dX1_read_84 : decode cX1_read 84 = .ok (.aload_n 1, 1) := by decide +kernel
theorem dX1_read_85 : decode cX1_read 85 = .ok (.getfield 52, 3) := by decide +kernel
theorem dX1_read_88 : decode cX1_read 88 = .ok (.goto 4, 3) := by decide +kernel
theorem dX1_read_91 : decode cX1_read 91 = .ok (.iconst (-1), 1) := by decide +kernel
theorem dX1_read_92 : decode cX1_read 92 = .ok (.ireturn, 1) := by decide +kernel
def x_Land_read_92 (N : Nat) (s0 : Int) (w : aw_W) : Option (Int × aw_W) :=
  some (s0, w)
theorem w_x_Land_read_92 {l : Launch} {K : aw_K} (N d : Nat) (hd : 2 ≤ d) : ∀ (s0 : Int) (w : aw_W) (y : Int) (v : aw_W), x_Land_read_92 N s0 w = some (y, v) → aw_AW l K MX1_read (d + 1) 92 [] [.inl s0] w (some (.inl y), v) := by
  intro s0 w y v h
  unfold x_Land_read_92 at h
  cases h
  exact aw_iret (pc := 92) rfl dX1_read_92
def x_Land_read_84 (N : Nat) (w : aw_W) : Option (Int × aw_W) :=
  x_Land_read_92 N (w 1 2) w
theorem w_x_Land_read_84 {l : Launch} {K : aw_K} (N d : Nat) (hd : 2 ≤ d) : ∀ (w : aw_W) (y : Int) (v : aw_W), x_Land_read_84 N w = some (y, v) → aw_AW l K MX1_read (d + 1) 84 [(1, .inr (.inr 1))] [] w (some (.inl y), v) := by
  intro w y v h
  unfold x_Land_read_84 at h
  refine aw_aload_n (pc := 84) (q := 0) dX1_read_84 rfl ?_
  refine aw_getf (pc := 85) (v := .inl (w 1 2)) dX1_read_85 fl_RX1_52 (by decide) rfl rfl rfl ?_
  refine aw_goto (pc := 88) (tgt := 92) dX1_read_88 (by decide) ?_
  exact aw_sel [] rfl (w_x_Land_read_92 N d hd  _ _ _ _ h)
def x_Land_read_69 (N : Nat) (w : aw_W) : Option (Int × aw_W) :=
  aw_b2 (x_Tape_sign N w) fun r1 w1 =>
    if r1 = 0 then
      if 2 ≤ (w1 7 4) then
        x_Land_read_92 N (-1) w1
      else
        x_Land_read_84 N w1
    else
      x_Land_read_84 N w1
theorem w_x_Land_read_69 {l : Launch} {K : aw_K} (N d : Nat) (hd : 2 ≤ d) : ∀ (w : aw_W) (y : Int) (v : aw_W), x_Land_read_69 N w = some (y, v) → aw_AW l K MX1_read (d + 1) 69 [(0, .inr (.inr 7)), (1, .inr (.inr 1))] [] w (some (.inl y), v) := by
  intro w y v h
  unfold x_Land_read_69 at h
  refine aw_aload_n (pc := 69) (q := 1) dX1_read_69 rfl ?_
  obtain ⟨r1, w1, h1, h⟩ := aw_b2s h
  refine aw_callV (pc := 70) (as := []) (st := []) (st' := [.inl r1]) dX1_read_70 cv_RX1_64 (by decide) rfl rfl rfl rfl (Nat.le_of_ble_eq_true rfl) (w_x_Tape_sign N d (by omega) _ _ _ h1) rfl ?_
  refine aw_if_ne (pc := 73) (tgt := 84) dX1_read_73 (by decide) (fun hc => ?_) (fun hc => ?_)
  · rw [if_neg hc] at h
    exact aw_sel [1] rfl (w_x_Land_read_84 N d hd  _ _ _ h)
  · rw [if_pos hc] at h
    refine aw_aload_n (pc := 76) (q := 0) dX1_read_76 rfl ?_
    refine aw_getf (pc := 77) (v := .inl (w1 7 4)) dX1_read_77 fl_RX1_21 (by decide) rfl rfl rfl ?_
    refine aw_iconst (pc := 80) dX1_read_80 ⟨by decide, by decide⟩ ?_
    refine aw_icmp_ge (pc := 81) (tgt := 91) dX1_read_81 (by decide) (fun hc => ?_) (fun hc => ?_)
    · rw [if_pos hc] at h
      refine aw_iconst (pc := 91) dX1_read_91 ⟨by decide, by decide⟩ ?_
      exact aw_sel [] rfl (w_x_Land_read_92 N d hd  _ _ _ _ h)
    · rw [if_neg hc] at h
      exact aw_sel [1] rfl (w_x_Land_read_84 N d hd  _ _ _ h)
def x_Land_read_51 (N : Nat) (w : aw_W) : Option (Int × aw_W) :=
  some (w 1 2, w)
theorem w_x_Land_read_51 {l : Launch} {K : aw_K} (N d : Nat) (hd : 2 ≤ d) : ∀ (w : aw_W) (y : Int) (v : aw_W), x_Land_read_51 N w = some (y, v) → aw_AW l K MX1_read (d + 1) 51 [(1, .inr (.inr 1))] [] w (some (.inl y), v) := by
  intro w y v h
  unfold x_Land_read_51 at h
  refine aw_aload_n (pc := 51) (q := 0) dX1_read_51 rfl ?_
  refine aw_getf (pc := 52) (v := .inl (w 1 2)) dX1_read_52 fl_RX1_52 (by decide) rfl rfl rfl ?_
  cases h
  exact aw_iret (pc := 55) rfl dX1_read_55
def x_Land_read_32 (N : Nat) : Nat → Int → Int → aw_W → Option (Int × aw_W)
  | 0, _, _, _ => none
  | n + 1, x2, x3, w =>
    if x2 = 0 then
      x_Land_read_69 N w
    else
      if 160 ≤ x3 then
        x_Land_read_69 N w
      else
        aw_b2 (x_Land_readClause N w) fun r1 w1 =>
          if r1 = 0 then
            x_Land_read_51 N w1
          else
            aw_b2 (x_Tape_take N 59 w1) fun r2 w2 =>
              x_Land_read_32 N n r2 (aw_w (x3 + 1)) w2
theorem w_x_Land_read_32 {l : Launch} {K : aw_K} (N d : Nat) (hd : 2 ≤ d) : ∀ (n : Nat) (x2 x3 : Int) (w : aw_W) (y : Int) (v : aw_W), x_Land_read_32 N n x2 x3 w = some (y, v) → aw_AW l K MX1_read (d + 1) 32 [(0, .inr (.inr 7)), (1, .inr (.inr 1)), (2, .inl x2), (3, .inl x3)] [] w (some (.inl y), v) := by
  intro n
  induction n with
  | zero => intro x2 x3 w y v h; rw [x_Land_read_32] at h; cases h
  | succ n ih =>
    intro x2 x3 w y v h
    rw [x_Land_read_32] at h
    refine aw_iload_n (pc := 32) (q := 2) dX1_read_32 rfl ?_
    refine aw_if_eq (pc := 33) (tgt := 69) dX1_read_33 (by decide) (fun hc => ?_) (fun hc => ?_)
    · rw [if_pos hc] at h
      exact aw_sel [0, 1] rfl (w_x_Land_read_69 N d hd  _ _ _ h)
    · rw [if_neg hc] at h
      refine aw_iload_n (pc := 36) (q := 3) dX1_read_36 rfl ?_
      refine aw_sipush (pc := 37) dX1_read_37 (by decide) ⟨by decide, by decide⟩ ?_
      refine aw_icmp_ge (pc := 40) (tgt := 69) dX1_read_40 (by decide) (fun hc => ?_) (fun hc => ?_)
      · rw [if_pos hc] at h
        exact aw_sel [0, 1] rfl (w_x_Land_read_69 N d hd  _ _ _ h)
      · rw [if_neg hc] at h
        refine aw_aload_n (pc := 43) (q := 0) dX1_read_43 rfl ?_
        refine aw_aload_n (pc := 44) (q := 1) dX1_read_44 rfl ?_
        obtain ⟨r1, w1, h1, h⟩ := aw_b2s h
        refine aw_callV (pc := 45) (as := [.inr (.inr 1)]) (st := []) (st' := [.inl r1]) dX1_read_45 cv_RX1_57 (by decide) rfl rfl rfl rfl (Nat.le_of_ble_eq_true rfl) (w_x_Land_readClause N d (by omega) _ _ _ h1) rfl ?_
        refine aw_if_ne (pc := 48) (tgt := 56) dX1_read_48 (by decide) (fun hc => ?_) (fun hc => ?_)
        · rw [if_neg hc] at h
          refine aw_aload_n (pc := 56) (q := 1) dX1_read_56 rfl ?_
          refine aw_bipush (pc := 57) dX1_read_57 (by decide) ⟨by decide, by decide⟩ ?_
          obtain ⟨r2, w2, h2, h⟩ := aw_b2s h
          refine aw_callV (pc := 59) (as := [.inl 59]) (st := []) (st' := [.inl r2]) dX1_read_59 cv_RX1_61 (by decide) rfl rfl rfl rfl (Nat.le_of_ble_eq_true rfl) (w_x_Tape_take N d (by omega) _ _ _ _ h2) rfl ?_
          refine aw_istore_n (pc := 62) (ls' := [(2, .inl r2), (0, .inr (.inr 7)), (1, .inr (.inr 1)), (3, .inl x3)]) dX1_read_62 (by decide) rfl ?_
          refine aw_iinc (pc := 63) (q := 3) (ls' := [(3, .inl (aw_w (x3 + 1))), (2, .inl r2), (0, .inr (.inr 7)), (1, .inr (.inr 1))]) dX1_read_63 rfl (by decide) rfl ?_
          refine aw_goto (pc := 66) (tgt := 32) dX1_read_66 (by decide) ?_
          exact aw_sel [2, 3, 1, 0] rfl (ih _ _ _ _ _ h)
        · rw [if_pos hc] at h
          exact aw_sel [1] rfl (w_x_Land_read_51 N d hd  _ _ _ h)
def x_Land_read (N : Nat) (w : aw_W) : Option (Int × aw_W) :=
  x_Land_read_32 N N 1 0 (aw_up (aw_cpy (fun x => List.getD [2, 0, 0, 0, 5] x 0) (aw_up (aw_up w 7 4 0) 7 3 0) 9 0 0 5) 1 2 0)
theorem w_x_Land_read_d {l : Launch} {K : aw_K} (N d : Nat) (hd : 2 ≤ d) : ∀ (w : aw_W) (y : Int) (v : aw_W), x_Land_read N w = some (y, v) → aw_Met l K MX1_read (d + 1) [.inr (.inr 7), .inr (.inr 1)] w (some (.inl y), v) := by
  intro w y v h
  unfold x_Land_read at h
  refine aw_enter rfl (Nat.le_of_ble_eq_true rfl) ?_
  show aw_AW l K MX1_read (d + 1) 0 [(0, .inr (.inr 7)), (1, .inr (.inr 1))] [] w (some (.inl y), v)
  refine aw_aload_n (pc := 0) (q := 0) dX1_read_0 rfl ?_
  refine aw_iconst (pc := 1) dX1_read_1 ⟨by decide, by decide⟩ ?_
  refine aw_puti (pc := 2) dX1_read_2 fp_RX1_21 (by decide) rfl rfl ?_
  refine aw_aload_n (pc := 5) (q := 0) dX1_read_5 rfl ?_
  refine aw_iconst (pc := 6) dX1_read_6 ⟨by decide, by decide⟩ ?_
  refine aw_putz (pc := 7) dX1_read_7 fp_RX1_45 (by decide) rfl rfl (by decide) ?_
  refine aw_getsN (pc := 10) (j := 7) dX1_read_10 rfl fn_RX1_49 ?_
  refine aw_iconst (pc := 13) dX1_read_13 ⟨by decide, by decide⟩ ?_
  refine aw_aload_n (pc := 14) (q := 0) dX1_read_14 rfl ?_
  refine aw_getf (pc := 15) (v := .inr (.inr 9)) dX1_read_15 fl_RX1_15 (by decide) rfl rfl rfl ?_
  refine aw_iconst (pc := 18) dX1_read_18 ⟨by decide, by decide⟩ ?_
  refine aw_iconst (pc := 19) dX1_read_19 ⟨by decide, by decide⟩ ?_
  refine aw_copyS (pc := 20) (j := 7) dX1_read_20 cc_RX1_33 rfl (aw_getD_I (by decide)) rfl (by decide) (by decide) (by decide) (by decide) (by decide) (by decide) (Nat.le_of_ble_eq_true rfl) ?_
  refine aw_aload_n (pc := 23) (q := 1) dX1_read_23 rfl ?_
  refine aw_iconst (pc := 24) dX1_read_24 ⟨by decide, by decide⟩ ?_
  refine aw_puti (pc := 25) dX1_read_25 fp_RX1_52 (by decide) rfl rfl ?_
  refine aw_iconst (pc := 28) dX1_read_28 ⟨by decide, by decide⟩ ?_
  refine aw_istore_n (pc := 29) (ls' := [(2, .inl 1), (0, .inr (.inr 7)), (1, .inr (.inr 1))]) dX1_read_29 (by decide) rfl ?_
  refine aw_iconst (pc := 30) dX1_read_30 ⟨by decide, by decide⟩ ?_
  refine aw_istore_n (pc := 31) (ls' := [(3, .inl 0), (2, .inl 1), (0, .inr (.inr 7)), (1, .inr (.inr 1))]) dX1_read_31 (by decide) rfl ?_
  exact aw_sel [2, 3, 1, 0] rfl (w_x_Land_read_32 N d hd  N _ _ _ _ _ h)
theorem w_x_Land_read {l : Launch} {K : aw_K} (N d : Nat) (hd : 3 ≤ d) : ∀ (w : aw_W) (y : Int) (v : aw_W), x_Land_read N w = some (y, v) → aw_Met l K MX1_read (d) [.inr (.inr 7), .inr (.inr 1)] w (some (.inl y), v) := by
  obtain ⟨e, rfl⟩ : ∃ e, d = e + 1 := ⟨d - 1, by omega⟩
  exact w_x_Land_read_d N e (by omega)
theorem dX11_fault_0 : decode cX11_fault 0 = .ok (.iload_n 1, 1) := by decide +kernel
theorem dX11_fault_1 : decode cX11_fault 1 = .ok (.ifCond .ne 15, 3) := by decide +kernel
theorem dX11_fault_4 : decode cX11_fault 4 = .ok (.aload_n 0, 1) := by decide +kernel
theorem dX11_fault_5 : decode cX11_fault 5 = .ok (.getfield 23, 3) := by decide +kernel
theorem dX11_fault_8 : decode cX11_fault 8 = .ok (.aload_n 0, 1) := by decide +kernel
theorem dX11_fault_9 : decode cX11_fault 9 = .ok (.getfield 10, 3) := by decide +kernel
theorem dX11_fault_12 : decode cX11_fault 12 = .ok (.invokevirtual 114, 3) := by decide +kernel
theorem dX11_fault_15 : decode cX11_fault 15 = .ok (.ireturn, 1) := by decide +kernel
theorem dX11_fault_16 : decode cX11_fault 16 = .ok (.iload_n 1, 1) := by decide +kernel
theorem dX11_fault_17 : decode cX11_fault 17 = .ok (.iconst 1, 1) := by decide +kernel
theorem dX11_fault_18 : decode cX11_fault 18 = .ok (.if_icmp .ne 15, 3) := by decide +kernel
theorem dX11_fault_21 : decode cX11_fault 21 = .ok (.aload_n 0, 1) := by decide +kernel
theorem dX11_fault_22 : decode cX11_fault 22 = .ok (.getfield 29, 3) := by decide +kernel
theorem dX11_fault_25 : decode cX11_fault 25 = .ok (.aload_n 0, 1) := by decide +kernel
theorem dX11_fault_26 : decode cX11_fault 26 = .ok (.getfield 10, 3) := by decide +kernel
theorem dX11_fault_29 : decode cX11_fault 29 = .ok (.invokevirtual 118, 3) := by decide +kernel
theorem dX11_fault_32 : decode cX11_fault 32 = .ok (.ireturn, 1) := by decide +kernel
theorem dX11_fault_33 : decode cX11_fault 33 = .ok (.bipush (-2), 2) := by decide +kernel
theorem dX11_fault_35 : decode cX11_fault 35 = .ok (.ireturn, 1) := by decide +kernel
def x_fault (N : Nat) (x1 : Int) (w : aw_W) : Option (Int × aw_W) :=
  if x1 = 0 then
    aw_b2 (x_Land_read N w) fun r2 w2 =>
      some (r2, w2)
  else
    if x1 = 1 then
      aw_b2 (x_Rules_read N w) fun r1 w1 =>
        some (r1, w1)
    else
      some ((-2), w)
theorem w_x_fault_d {l : Launch} {K : aw_K} (N d : Nat) (hd : 123 ≤ d) : ∀ (x1 : Int) (w : aw_W) (y : Int) (v : aw_W), x_fault N x1 w = some (y, v) → aw_Met l K MX11_fault (d + 1) [.inr (.inr 0), .inl x1] w (some (.inl y), v) := by
  intro x1 w y v h
  unfold x_fault at h
  refine aw_enter rfl (Nat.le_of_ble_eq_true rfl) ?_
  show aw_AW l K MX11_fault (d + 1) 0 [(0, .inr (.inr 0)), (1, .inl x1)] [] w (some (.inl y), v)
  refine aw_iload_n (pc := 0) (q := 1) dX11_fault_0 rfl ?_
  refine aw_if_ne (pc := 1) (tgt := 16) dX11_fault_1 (by decide) (fun hc => ?_) (fun hc => ?_)
  · rw [if_neg hc] at h
    refine aw_iload_n (pc := 16) (q := 1) dX11_fault_16 rfl ?_
    refine aw_iconst (pc := 17) dX11_fault_17 ⟨by decide, by decide⟩ ?_
    refine aw_icmp_ne (pc := 18) (tgt := 33) dX11_fault_18 (by decide) (fun hc => ?_) (fun hc => ?_)
    · rw [if_neg hc] at h
      refine aw_bipush (pc := 33) dX11_fault_33 (by decide) ⟨by decide, by decide⟩ ?_
      cases h
      exact aw_iret (pc := 35) rfl dX11_fault_35
    · rw [if_pos hc] at h
      refine aw_aload_n (pc := 21) (q := 0) dX11_fault_21 rfl ?_
      refine aw_getf (pc := 22) (v := .inr (.inr 11)) dX11_fault_22 fl_RX11_29 (by decide) rfl rfl rfl ?_
      refine aw_aload_n (pc := 25) (q := 0) dX11_fault_25 rfl ?_
      refine aw_getf (pc := 26) (v := .inr (.inr 1)) dX11_fault_26 fl_RX11_10 (by decide) rfl rfl rfl ?_
      obtain ⟨r1, w1, h1, h⟩ := aw_b2s h
      refine aw_callV (pc := 29) (as := [.inr (.inr 1)]) (st := []) (st' := [.inl r1]) dX11_fault_29 cv_RX11_118 (by decide) rfl rfl rfl rfl (Nat.le_of_ble_eq_true rfl) (w_x_Rules_read N d (by omega) _ _ _ h1) rfl ?_
      cases h
      exact aw_iret (pc := 32) rfl dX11_fault_32
  · rw [if_pos hc] at h
    refine aw_aload_n (pc := 4) (q := 0) dX11_fault_4 rfl ?_
    refine aw_getf (pc := 5) (v := .inr (.inr 7)) dX11_fault_5 fl_RX11_23 (by decide) rfl rfl rfl ?_
    refine aw_aload_n (pc := 8) (q := 0) dX11_fault_8 rfl ?_
    refine aw_getf (pc := 9) (v := .inr (.inr 1)) dX11_fault_9 fl_RX11_10 (by decide) rfl rfl rfl ?_
    obtain ⟨r2, w2, h2, h⟩ := aw_b2s h
    refine aw_callV (pc := 12) (as := [.inr (.inr 1)]) (st := []) (st' := [.inl r2]) dX11_fault_12 cv_RX11_114 (by decide) rfl rfl rfl rfl (Nat.le_of_ble_eq_true rfl) (w_x_Land_read N d (by omega) _ _ _ h2) rfl ?_
    cases h
    exact aw_iret (pc := 15) rfl dX11_fault_15
theorem w_x_fault {l : Launch} {K : aw_K} (N d : Nat) (hd : 124 ≤ d) : ∀ (x1 : Int) (w : aw_W) (y : Int) (v : aw_W), x_fault N x1 w = some (y, v) → aw_Met l K MX11_fault (d) [.inr (.inr 0), .inl x1] w (some (.inl y), v) := by
  obtain ⟨e, rfl⟩ : ∃ e, d = e + 1 := ⟨d - 1, by omega⟩
  exact w_x_fault_d N e (by omega)
theorem dX9_filled_0 : decode cX9_filled 0 = .ok (.iconst 0, 1) := by decide +kernel
theorem dX9_filled_1 : decode cX9_filled 1 = .ok (.istore_n 1, 1) := by decide +kernel
theorem dX9_filled_2 : decode cX9_filled 2 = .ok (.bipush 24, 2) := by decide +kernel
theorem dX9_filled_4 : decode cX9_filled 4 = .ok (.istore_n 2, 1) := by decide +kernel
theorem dX9_filled_5 : decode cX9_filled 5 = .ok (.iload_n 2, 1) := by decide +kernel
theorem dX9_filled_6 : decode cX9_filled 6 = .ok (.ifCond .lt 22, 3) := by decide +kernel
theorem dX9_filled_9 : decode cX9_filled 9 = .ok (.iload_n 0, 1) := by decide +kernel
theorem dX9_filled_10 : decode cX9_filled 10 = .ok (.iload_n 2, 1) := by decide +kernel
theorem dX9_filled_11 : decode cX9_filled 11 = .ok (.iushr, 1) := by decide +kernel
theorem dX9_filled_12 : decode cX9_filled 12 = .ok (.sipush 255, 3) := by decide +kernel
theorem dX9_filled_15 : decode cX9_filled 15 = .ok (.iand, 1) := by decide +kernel
theorem dX9_filled_16 : decode cX9_filled 16 = .ok (.ifCond .eq 6, 3) := by decide +kernel
theorem dX9_filled_19 : decode cX9_filled 19 = .ok (.iinc 1 1, 3) := by decide +kernel
theorem dX9_filled_22 : decode cX9_filled 22 = .ok (.iinc 2 (-8), 3) := by decide +kernel
theorem dX9_filled_25 : decode cX9_filled 25 = .ok (.goto (-20), 3) := by decide +kernel
theorem dX9_filled_28 : decode cX9_filled 28 = .ok (.iload_n 1, 1) := by decide +kernel
theorem dX9_filled_29 : decode cX9_filled 29 = .ok (.ireturn, 1) := by decide +kernel
def x_Tape_filled_28 (N : Nat) (x1 : Int) (w : aw_W) : Option (Int × aw_W) :=
  some (x1, w)
theorem w_x_Tape_filled_28 {l : Launch} {K : aw_K} (N d : Nat) : ∀ (x1 : Int) (w : aw_W) (y : Int) (v : aw_W), x_Tape_filled_28 N x1 w = some (y, v) → aw_AW l K MX9_filled (d) 28 [(1, .inl x1)] [] w (some (.inl y), v) := by
  intro x1 w y v h
  unfold x_Tape_filled_28 at h
  refine aw_iload_n (pc := 28) (q := 0) dX9_filled_28 rfl ?_
  cases h
  exact aw_iret (pc := 29) rfl dX9_filled_29
def x_Tape_filled_22 (N : Nat) (k5 : Int → Int → Int → aw_W → Option (Int × aw_W)) (x0 x1 x2 : Int) (w : aw_W) : Option (Int × aw_W) :=
  k5 x0 x1 (aw_w (x2 + (-8))) w
theorem w_x_Tape_filled_22 {l : Launch} {K : aw_K} (N d : Nat) (k5 : Int → Int → Int → aw_W → Option (Int × aw_W)) (hk5 : ∀ (x0 x1 x2 : Int) (w : aw_W) (y : Int) (v : aw_W), k5 x0 x1 x2 w = some (y, v) → aw_AW l K MX9_filled (d) 5 [(0, .inl x0), (1, .inl x1), (2, .inl x2)] [] w (some (.inl y), v)) : ∀ (x0 x1 x2 : Int) (w : aw_W) (y : Int) (v : aw_W), x_Tape_filled_22 N k5 x0 x1 x2 w = some (y, v) → aw_AW l K MX9_filled (d) 22 [(0, .inl x0), (1, .inl x1), (2, .inl x2)] [] w (some (.inl y), v) := by
  intro x0 x1 x2 w y v h
  unfold x_Tape_filled_22 at h
  refine aw_iinc (pc := 22) (q := 2) (ls' := [(2, .inl (aw_w (x2 + (-8)))), (0, .inl x0), (1, .inl x1)]) dX9_filled_22 rfl (by decide) rfl ?_
  refine aw_goto (pc := 25) (tgt := 5) dX9_filled_25 (by decide) ?_
  exact aw_sel [1, 2, 0] rfl (hk5 _ _ _ _ _ _ h)
def x_Tape_filled_5 (N : Nat) : Nat → Int → Int → Int → aw_W → Option (Int × aw_W)
  | 0, _, _, _, _ => none
  | n + 1, x0, x1, x2, w =>
    if x2 < 0 then
      x_Tape_filled_28 N x1 w
    else
      if (aw_and (aw_ushr x0 x2) 255) = 0 then
        x_Tape_filled_22 N (x_Tape_filled_5 N n) x0 x1 x2 w
      else
        x_Tape_filled_22 N (x_Tape_filled_5 N n) x0 (aw_w (x1 + 1)) x2 w
theorem w_x_Tape_filled_5 {l : Launch} {K : aw_K} (N d : Nat) : ∀ (n : Nat) (x0 x1 x2 : Int) (w : aw_W) (y : Int) (v : aw_W), x_Tape_filled_5 N n x0 x1 x2 w = some (y, v) → aw_AW l K MX9_filled (d) 5 [(0, .inl x0), (1, .inl x1), (2, .inl x2)] [] w (some (.inl y), v) := by
  intro n
  induction n with
  | zero => intro x0 x1 x2 w y v h; rw [x_Tape_filled_5] at h; cases h
  | succ n ih =>
    intro x0 x1 x2 w y v h
    rw [x_Tape_filled_5] at h
    refine aw_iload_n (pc := 5) (q := 2) dX9_filled_5 rfl ?_
    refine aw_if_lt (pc := 6) (tgt := 28) dX9_filled_6 (by decide) (fun hc => ?_) (fun hc => ?_)
    · rw [if_pos hc] at h
      exact aw_sel [1] rfl (w_x_Tape_filled_28 N d  _ _ _ _ h)
    · rw [if_neg hc] at h
      refine aw_iload_n (pc := 9) (q := 0) dX9_filled_9 rfl ?_
      refine aw_iload_n (pc := 10) (q := 2) dX9_filled_10 rfl ?_
      refine aw_iushr (pc := 11) dX9_filled_11 ?_
      refine aw_sipush (pc := 12) dX9_filled_12 (by decide) ⟨by decide, by decide⟩ ?_
      refine aw_iand (pc := 15) dX9_filled_15 ?_
      refine aw_if_eq (pc := 16) (tgt := 22) dX9_filled_16 (by decide) (fun hc => ?_) (fun hc => ?_)
      · rw [if_pos hc] at h
        exact aw_sel [0, 1, 2] rfl (w_x_Tape_filled_22 N d  _ ih _ _ _ _ _ _ h)
      · rw [if_neg hc] at h
        refine aw_iinc (pc := 19) (q := 1) (ls' := [(1, .inl (aw_w (x1 + 1))), (0, .inl x0), (2, .inl x2)]) dX9_filled_19 rfl (by decide) rfl ?_
        exact aw_sel [1, 0, 2] rfl (w_x_Tape_filled_22 N d  _ ih _ _ _ _ _ _ h)
def x_Tape_filled (N : Nat) (x0 : Int) (w : aw_W) : Option (Int × aw_W) :=
  x_Tape_filled_5 N N x0 0 24 w
theorem w_x_Tape_filled {l : Launch} {K : aw_K} (N d : Nat) (hd : 0 ≤ d) : ∀ (x0 : Int) (w : aw_W) (y : Int) (v : aw_W), x_Tape_filled N x0 w = some (y, v) → aw_Met l K MX9_filled (d) [.inl x0] w (some (.inl y), v) := by
  intro x0 w y v h
  unfold x_Tape_filled at h
  refine aw_enter rfl (Nat.le_of_ble_eq_true rfl) ?_
  show aw_AW l K MX9_filled (d) 0 [(0, .inl x0)] [] w (some (.inl y), v)
  refine aw_iconst (pc := 0) dX9_filled_0 ⟨by decide, by decide⟩ ?_
  refine aw_istore_n (pc := 1) (ls' := [(1, .inl 0), (0, .inl x0)]) dX9_filled_1 (by decide) rfl ?_
  refine aw_bipush (pc := 2) dX9_filled_2 (by decide) ⟨by decide, by decide⟩ ?_
  refine aw_istore_n (pc := 4) (ls' := [(2, .inl 24), (1, .inl 0), (0, .inl x0)]) dX9_filled_4 (by decide) rfl ?_
  exact aw_sel [2, 1, 0] rfl (w_x_Tape_filled_5 N d  N _ _ _ _ _ _ h)
theorem dX9_add_0 : decode cX9_add 0 = .ok (.bipush 24, 2) := by decide +kernel
theorem dX9_add_2 : decode cX9_add 2 = .ok (.istore_n 2, 1) := by decide +kernel
theorem dX9_add_3 : decode cX9_add 3 = .ok (.iload_n 2, 1) := by decide +kernel
theorem dX9_add_4 : decode cX9_add 4 = .ok (.ifCond .lt 53, 3) := by decide +kernel
theorem dX9_add_7 : decode cX9_add 7 = .ok (.iload_n 1, 1) := by decide +kernel
theorem dX9_add_8 : decode cX9_add 8 = .ok (.iload_n 2, 1) := by decide +kernel
theorem dX9_add_9 : decode cX9_add 9 = .ok (.iushr, 1) := by decide +kernel
theorem dX9_add_10 : decode cX9_add 10 = .ok (.sipush 255, 3) := by decide +kernel
theorem dX9_add_13 : decode cX9_add 13 = .ok (.iand, 1) := by decide +kernel
theorem dX9_add_14 : decode cX9_add 14 = .ok (.istore_n 3, 1) := by decide +kernel
theorem dX9_add_15 : decode cX9_add 15 = .ok (.iload_n 3, 1) := by decide +kernel
theorem dX9_add_16 : decode cX9_add 16 = .ok (.ifCond .eq 35, 3) := by decide +kernel
theorem dX9_add_19 : decode cX9_add 19 = .ok (.aload_n 0, 1) := by decide +kernel
theorem dX9_add_20 : decode cX9_add 20 = .ok (.getfield 15, 3) := by decide +kernel
theorem dX9_add_23 : decode cX9_add 23 = .ok (.aload_n 0, 1) := by decide +kernel
theorem dX9_add_24 : decode cX9_add 24 = .ok (.getfield 9, 3) := by decide +kernel
theorem dX9_add_27 : decode cX9_add 27 = .ok (.arraylength, 1) := by decide +kernel
theorem dX9_add_28 : decode cX9_add 28 = .ok (.if_icmp .ge 23, 3) := by decide +kernel
theorem dX9_add_31 : decode cX9_add 31 = .ok (.aload_n 0, 1) := by decide +kernel
theorem dX9_add_32 : decode cX9_add 32 = .ok (.getfield 9, 3) := by decide +kernel
theorem dX9_add_35 : decode cX9_add 35 = .ok (.aload_n 0, 1) := by decide +kernel
theorem dX9_add_36 : decode cX9_add 36 = .ok (.getfield 15, 3) := by decide +kernel
theorem dX9_add_39 : decode cX9_add 39 = .ok (.iload_n 3, 1) := by decide +kernel
theorem dX9_add_40 : decode cX9_add 40 = .ok (.iastore, 1) := by decide +kernel
theorem dX9_add_41 : decode cX9_add 41 = .ok (.aload_n 0, 1) := by decide +kernel
theorem dX9_add_42 : decode cX9_add 42 = .ok (.dup, 1) := by decide +kernel
theorem dX9_add_43 : decode cX9_add 43 = .ok (.getfield 15, 3) := by decide +kernel
theorem dX9_add_46 : decode cX9_add 46 = .ok (.iconst 1, 1) := by decide +kernel
theorem dX9_add_47 : decode cX9_add 47 = .ok (.iadd, 1) := by decide +kernel
theorem dX9_add_48 : decode cX9_add 48 = .ok (.putfield 15, 3) := by decide +kernel
theorem dX9_add_51 : decode cX9_add 51 = .ok (.iinc 2 (-8), 3) := by decide +kernel
theorem dX9_add_54 : decode cX9_add 54 = .ok (.goto (-51), 3) := by decide +kernel
theorem dX9_add_57 : decode cX9_add 57 = .ok (.return_, 1) := by decide +kernel
def x_Tape_add_57 (N : Nat) (w : aw_W) : Option (aw_W) :=
  some w
theorem w_x_Tape_add_57 {l : Launch} {K : aw_K} (N d : Nat) : ∀ (w v : aw_W), x_Tape_add_57 N w = some v → aw_AW l K MX9_add (d) 57 [] [] w (none, v) := by
  intro w v h
  unfold x_Tape_add_57 at h
  cases h
  exact aw_vret (pc := 57) rfl dX9_add_57
def x_Tape_add_51 (N : Nat) (k3 : Int → Int → aw_W → Option (aw_W)) (x1 x2 : Int) (w : aw_W) : Option (aw_W) :=
  k3 x1 (aw_w (x2 + (-8))) w
theorem w_x_Tape_add_51 {l : Launch} {K : aw_K} (N d : Nat) (k3 : Int → Int → aw_W → Option (aw_W)) (hk3 : ∀ (x1 x2 : Int) (w v : aw_W), k3 x1 x2 w = some v → aw_AW l K MX9_add (d) 3 [(0, .inr (.inr 1)), (1, .inl x1), (2, .inl x2)] [] w (none, v)) : ∀ (x1 x2 : Int) (w v : aw_W), x_Tape_add_51 N k3 x1 x2 w = some v → aw_AW l K MX9_add (d) 51 [(0, .inr (.inr 1)), (1, .inl x1), (2, .inl x2)] [] w (none, v) := by
  intro x1 x2 w v h
  unfold x_Tape_add_51 at h
  refine aw_iinc (pc := 51) (q := 2) (ls' := [(2, .inl (aw_w (x2 + (-8)))), (0, .inr (.inr 1)), (1, .inl x1)]) dX9_add_51 rfl (by decide) rfl ?_
  refine aw_goto (pc := 54) (tgt := 3) dX9_add_54 (by decide) ?_
  exact aw_sel [1, 2, 0] rfl (hk3 _ _ _ _ h)
def x_Tape_add_3 (N : Nat) : Nat → Int → Int → aw_W → Option (aw_W)
  | 0, _, _, _ => none
  | n + 1, x1, x2, w =>
    if x2 < 0 then
      x_Tape_add_57 N w
    else
      if (aw_and (aw_ushr x1 x2) 255) = 0 then
        x_Tape_add_51 N (x_Tape_add_3 N n) x1 x2 w
      else
        if 160 ≤ (w 1 1) then
          x_Tape_add_51 N (x_Tape_add_3 N n) x1 x2 w
        else
          if 0 ≤ (w 1 1) ∧ (w 1 1) < 160 then
            x_Tape_add_51 N (x_Tape_add_3 N n) x1 x2 (aw_up (aw_up w 2 ((w 1 1).toNat) (aw_and (aw_ushr x1 x2) 255)) 1 1 (aw_w ((w 1 1) + 1)))
          else none
theorem w_x_Tape_add_3 {l : Launch} {K : aw_K} (N d : Nat) : ∀ (n : Nat) (x1 x2 : Int) (w v : aw_W), x_Tape_add_3 N n x1 x2 w = some v → aw_AW l K MX9_add (d) 3 [(0, .inr (.inr 1)), (1, .inl x1), (2, .inl x2)] [] w (none, v) := by
  intro n
  induction n with
  | zero => intro x1 x2 w v h; rw [x_Tape_add_3] at h; cases h
  | succ n ih =>
    intro x1 x2 w v h
    rw [x_Tape_add_3] at h
    refine aw_iload_n (pc := 3) (q := 2) dX9_add_3 rfl ?_
    refine aw_if_lt (pc := 4) (tgt := 57) dX9_add_4 (by decide) (fun hc => ?_) (fun hc => ?_)
    · rw [if_pos hc] at h
      exact aw_sel [] rfl (w_x_Tape_add_57 N d  _ _ h)
    · rw [if_neg hc] at h
      refine aw_iload_n (pc := 7) (q := 1) dX9_add_7 rfl ?_
      refine aw_iload_n (pc := 8) (q := 2) dX9_add_8 rfl ?_
      refine aw_iushr (pc := 9) dX9_add_9 ?_
      refine aw_sipush (pc := 10) dX9_add_10 (by decide) ⟨by decide, by decide⟩ ?_
      refine aw_iand (pc := 13) dX9_add_13 ?_
      refine aw_istore_n (pc := 14) (ls' := [(3, .inl (aw_and (aw_ushr x1 x2) 255)), (0, .inr (.inr 1)), (1, .inl x1), (2, .inl x2)]) dX9_add_14 (by decide) rfl ?_
      refine aw_iload_n (pc := 15) (q := 0) dX9_add_15 rfl ?_
      refine aw_if_eq (pc := 16) (tgt := 51) dX9_add_16 (by decide) (fun hc => ?_) (fun hc => ?_)
      · rw [if_pos hc] at h
        exact aw_sel [1, 2, 3] rfl (w_x_Tape_add_51 N d  _ ih _ _ _ _ h)
      · rw [if_neg hc] at h
        refine aw_aload_n (pc := 19) (q := 1) dX9_add_19 rfl ?_
        refine aw_getf (pc := 20) (v := .inl (w 1 1)) dX9_add_20 fl_RX9_15 (by decide) rfl rfl rfl ?_
        refine aw_aload_n (pc := 23) (q := 1) dX9_add_23 rfl ?_
        refine aw_getf (pc := 24) (v := .inr (.inr 2)) dX9_add_24 fl_RX9_9 (by decide) rfl rfl rfl ?_
        refine aw_alenv (pc := 27) (x := 160) dX9_add_27 (by decide) rfl (by decide) rfl ⟨by decide, by decide⟩ ?_
        refine aw_icmp_ge (pc := 28) (tgt := 51) dX9_add_28 (by decide) (fun hc => ?_) (fun hc => ?_)
        · rw [if_pos hc] at h
          exact aw_sel [1, 2, 3] rfl (w_x_Tape_add_51 N d  _ ih _ _ _ _ h)
        · rw [if_neg hc] at h
          refine aw_aload_n (pc := 31) (q := 1) dX9_add_31 rfl ?_
          refine aw_getf (pc := 32) (v := .inr (.inr 2)) dX9_add_32 fl_RX9_9 (by decide) rfl rfl rfl ?_
          refine aw_aload_n (pc := 35) (q := 1) dX9_add_35 rfl ?_
          refine aw_getf (pc := 36) (v := .inl (w 1 1)) dX9_add_36 fl_RX9_15 (by decide) rfl rfl rfl ?_
          refine aw_iload_n (pc := 39) (q := 0) dX9_add_39 rfl ?_
          obtain ⟨hb, h⟩ := aw_cks h
          refine aw_iast (pc := 40) dX9_add_40 rfl hb.1 hb.2 ?_
          refine aw_aload_n (pc := 41) (q := 1) dX9_add_41 rfl ?_
          refine aw_dup (pc := 42) dX9_add_42 rfl ?_
          refine aw_getf (pc := 43) (v := .inl (w 1 1)) dX9_add_43 fl_RX9_15 (by decide) rfl rfl rfl ?_
          refine aw_iconst (pc := 46) dX9_add_46 ⟨by decide, by decide⟩ ?_
          refine aw_iadd (pc := 47) dX9_add_47 ?_
          refine aw_puti (pc := 48) dX9_add_48 fp_RX9_15 (by decide) rfl rfl ?_
          exact aw_sel [1, 2, 3] rfl (w_x_Tape_add_51 N d  _ ih _ _ _ _ h)
def x_Tape_add (N : Nat) (x1 : Int) (w : aw_W) : Option (aw_W) :=
  x_Tape_add_3 N N x1 24 w
theorem w_x_Tape_add {l : Launch} {K : aw_K} (N d : Nat) (hd : 0 ≤ d) : ∀ (x1 : Int) (w v : aw_W), x_Tape_add N x1 w = some v → aw_Met l K MX9_add (d) [.inr (.inr 1), .inl x1] w (none, v) := by
  intro x1 w v h
  unfold x_Tape_add at h
  refine aw_enter rfl (Nat.le_of_ble_eq_true rfl) ?_
  show aw_AW l K MX9_add (d) 0 [(0, .inr (.inr 1)), (1, .inl x1)] [] w (none, v)
  refine aw_bipush (pc := 0) dX9_add_0 (by decide) ⟨by decide, by decide⟩ ?_
  refine aw_istore_n (pc := 2) (ls' := [(2, .inl 24), (0, .inr (.inr 1)), (1, .inl x1)]) dX9_add_2 (by decide) rfl ?_
  exact aw_sel [1, 2, 0] rfl (w_x_Tape_add_3 N d  N _ _ _ _ h)
theorem dX11_feed_0 : decode cX11_feed 0 = .ok (.iload_n 1, 1) := by decide +kernel
theorem dX11_feed_1 : decode cX11_feed 1 = .ok (.invokestatic 102, 3) := by decide +kernel
theorem dX11_feed_4 : decode cX11_feed 4 = .ok (.iload_n 2, 1) := by decide +kernel
theorem dX11_feed_5 : decode cX11_feed 5 = .ok (.invokestatic 102, 3) := by decide +kernel
theorem dX11_feed_8 : decode cX11_feed 8 = .ok (.iadd, 1) := by decide +kernel
theorem dX11_feed_9 : decode cX11_feed 9 = .ok (.iload_n 3, 1) := by decide +kernel
theorem dX11_feed_10 : decode cX11_feed 10 = .ok (.invokestatic 102, 3) := by decide +kernel
theorem dX11_feed_13 : decode cX11_feed 13 = .ok (.iadd, 1) := by decide +kernel
theorem dX11_feed_14 : decode cX11_feed 14 = .ok (.iload 4, 2) := by decide +kernel
theorem dX11_feed_16 : decode cX11_feed 16 = .ok (.invokestatic 102, 3) := by decide +kernel
theorem dX11_feed_19 : decode cX11_feed 19 = .ok (.iadd, 1) := by decide +kernel
theorem dX11_feed_20 : decode cX11_feed 20 = .ok (.iload 5, 2) := by decide +kernel
theorem dX11_feed_22 : decode cX11_feed 22 = .ok (.invokestatic 102, 3) := by decide +kernel
theorem dX11_feed_25 : decode cX11_feed 25 = .ok (.iadd, 1) := by decide +kernel
theorem dX11_feed_26 : decode cX11_feed 26 = .ok (.istore 6, 2) := by decide +kernel
theorem dX11_feed_28 : decode cX11_feed 28 = .ok (.aload_n 0, 1) := by decide +kernel
theorem dX11_feed_29 : decode cX11_feed 29 = .ok (.getfield 10, 3) := by decide +kernel
theorem dX11_feed_32 : decode cX11_feed 32 = .ok (.getfield 106, 3) := by decide +kernel
theorem dX11_feed_35 : decode cX11_feed 35 = .ok (.iload 6, 2) := by decide +kernel
theorem dX11_feed_37 : decode cX11_feed 37 = .ok (.iadd, 1) := by decide +kernel
theorem dX11_feed_38 : decode cX11_feed 38 = .ok (.sipush 160, 3) := by decide +kernel
theorem dX11_feed_41 : decode cX11_feed 41 = .ok (.if_icmp .le 5, 3) := by decide +kernel
theorem dX11_feed_44 : decode cX11_feed 44 = .ok (.iconst (-1), 1) := by decide +kernel
theorem dX11_feed_45 : decode cX11_feed 45 = .ok (.ireturn, 1) := by decide +kernel
theorem dX11_feed_46 : decode cX11_feed 46 = .ok (.aload_n 0, 1) := by decide +kernel
theorem dX11_feed_47 : decode cX11_feed 47 = .ok (.getfield 10, 3) := by decide +kernel
theorem dX11_feed_50 : decode cX11_feed 50 = .ok (.iload_n 1, 1) := by decide +kernel
theorem dX11_feed_51 : decode cX11_feed 51 = .ok (.invokevirtual 110, 3) := by decide +kernel
theorem dX11_feed_54 : decode cX11_feed 54 = .ok (.aload_n 0, 1) := by decide +kernel
theorem dX11_feed_55 : decode cX11_feed 55 = .ok (.getfield 10, 3) := by decide +kernel
theorem dX11_feed_58 : decode cX11_feed 58 = .ok (.iload_n 2, 1) := by decide +kernel
theorem dX11_feed_59 : decode cX11_feed 59 = .ok (.invokevirtual 110, 3) := by decide +kernel
theorem dX11_feed_62 : decode cX11_feed 62 = .ok (.aload_n 0, 1) := by decide +kernel
theorem dX11_feed_63 : decode cX11_feed 63 = .ok (.getfield 10, 3) := by decide +kernel
theorem dX11_feed_66 : decode cX11_feed 66 = .ok (.iload_n 3, 1) := by decide +kernel
theorem dX11_feed_67 : decode cX11_feed 67 = .ok (.invokevirtual 110, 3) := by decide +kernel
theorem dX11_feed_70 : decode cX11_feed 70 = .ok (.aload_n 0, 1) := by decide +kernel
theorem dX11_feed_71 : decode cX11_feed 71 = .ok (.getfield 10, 3) := by decide +kernel
theorem dX11_feed_74 : decode cX11_feed 74 = .ok (.iload 4, 2) := by decide +kernel
theorem dX11_feed_76 : decode cX11_feed 76 = .ok (.invokevirtual 110, 3) := by decide +kernel
theorem dX11_feed_79 : decode cX11_feed 79 = .ok (.aload_n 0, 1) := by decide +kernel
theorem dX11_feed_80 : decode cX11_feed 80 = .ok (.getfield 10, 3) := by decide +kernel
theorem dX11_feed_83 : decode cX11_feed 83 = .ok (.iload 5, 2) := by decide +kernel
theorem dX11_feed_85 : decode cX11_feed 85 = .ok (.invokevirtual 110, 3) := by decide +kernel
theorem dX11_feed_88 : decode cX11_feed 88 = .ok (.aload_n 0, 1) := by decide +kernel
theorem dX11_feed_89 : decode cX11_feed 89 = .ok (.getfield 10, 3) := by decide +kernel
theorem dX11_feed_92 : decode cX11_feed 92 = .ok (.getfield 106, 3) := by decide +kernel
theorem dX11_feed_95 : decode cX11_feed 95 = .ok (.ireturn, 1) := by decide +kernel
def x_feed (N : Nat) (x1 x2 x3 x4 x5 : Int) (w : aw_W) : Option (Int × aw_W) :=
  aw_b2 (x_Tape_filled N x1 w) fun r1 w1 =>
    aw_b2 (x_Tape_filled N x2 w1) fun r2 w2 =>
      aw_b2 (x_Tape_filled N x3 w2) fun r3 w3 =>
        aw_b2 (x_Tape_filled N x4 w3) fun r4 w4 =>
          aw_b2 (x_Tape_filled N x5 w4) fun r5 w5 =>
            if (aw_w ((w5 1 1) + (aw_w ((aw_w ((aw_w ((aw_w (r1 + r2)) + r3)) + r4)) + r5)))) ≤ 160 then
              aw_b1 (x_Tape_add N x1 w5) fun w6 =>
                aw_b1 (x_Tape_add N x2 w6) fun w7 =>
                  aw_b1 (x_Tape_add N x3 w7) fun w8 =>
                    aw_b1 (x_Tape_add N x4 w8) fun w9 =>
                      aw_b1 (x_Tape_add N x5 w9) fun w10 =>
                        some (w10 1 1, w10)
            else
              some ((-1), w5)
theorem w_x_feed_d {l : Launch} {K : aw_K} (N d : Nat) (hd : 0 ≤ d) : ∀ (x1 x2 x3 x4 x5 : Int) (w : aw_W) (y : Int) (v : aw_W), x_feed N x1 x2 x3 x4 x5 w = some (y, v) → aw_Met l K MX11_feed (d + 1) [.inr (.inr 0), .inl x1, .inl x2, .inl x3, .inl x4, .inl x5] w (some (.inl y), v) := by
  intro x1 x2 x3 x4 x5 w y v h
  unfold x_feed at h
  refine aw_enter rfl (Nat.le_of_ble_eq_true rfl) ?_
  show aw_AW l K MX11_feed (d + 1) 0 [(0, .inr (.inr 0)), (1, .inl x1), (2, .inl x2), (3, .inl x3), (4, .inl x4), (5, .inl x5)] [] w (some (.inl y), v)
  refine aw_iload_n (pc := 0) (q := 1) dX11_feed_0 rfl ?_
  obtain ⟨r1, w1, h1, h⟩ := aw_b2s h
  refine aw_callS (pc := 1) (as := [.inl x1]) (st := []) (st' := [.inl r1]) dX11_feed_1 cs_RX11_102 rfl rfl (Nat.le_of_ble_eq_true rfl) (w_x_Tape_filled N d (by omega) _ _ _ _ h1) rfl ?_
  refine aw_iload_n (pc := 4) (q := 2) dX11_feed_4 rfl ?_
  obtain ⟨r2, w2, h2, h⟩ := aw_b2s h
  refine aw_callS (pc := 5) (as := [.inl x2]) (st := [.inl r1]) (st' := [.inl r2, .inl r1]) dX11_feed_5 cs_RX11_102 rfl rfl (Nat.le_of_ble_eq_true rfl) (w_x_Tape_filled N d (by omega) _ _ _ _ h2) rfl ?_
  refine aw_iadd (pc := 8) dX11_feed_8 ?_
  refine aw_iload_n (pc := 9) (q := 3) dX11_feed_9 rfl ?_
  obtain ⟨r3, w3, h3, h⟩ := aw_b2s h
  refine aw_callS (pc := 10) (as := [.inl x3]) (st := [.inl (aw_w (r1 + r2))]) (st' := [.inl r3, .inl (aw_w (r1 + r2))]) dX11_feed_10 cs_RX11_102 rfl rfl (Nat.le_of_ble_eq_true rfl) (w_x_Tape_filled N d (by omega) _ _ _ _ h3) rfl ?_
  refine aw_iadd (pc := 13) dX11_feed_13 ?_
  refine aw_iload (pc := 14) (q := 4) dX11_feed_14 rfl ?_
  obtain ⟨r4, w4, h4, h⟩ := aw_b2s h
  refine aw_callS (pc := 16) (as := [.inl x4]) (st := [.inl (aw_w ((aw_w (r1 + r2)) + r3))]) (st' := [.inl r4, .inl (aw_w ((aw_w (r1 + r2)) + r3))]) dX11_feed_16 cs_RX11_102 rfl rfl (Nat.le_of_ble_eq_true rfl) (w_x_Tape_filled N d (by omega) _ _ _ _ h4) rfl ?_
  refine aw_iadd (pc := 19) dX11_feed_19 ?_
  refine aw_iload (pc := 20) (q := 5) dX11_feed_20 rfl ?_
  obtain ⟨r5, w5, h5, h⟩ := aw_b2s h
  refine aw_callS (pc := 22) (as := [.inl x5]) (st := [.inl (aw_w ((aw_w ((aw_w (r1 + r2)) + r3)) + r4))]) (st' := [.inl r5, .inl (aw_w ((aw_w ((aw_w (r1 + r2)) + r3)) + r4))]) dX11_feed_22 cs_RX11_102 rfl rfl (Nat.le_of_ble_eq_true rfl) (w_x_Tape_filled N d (by omega) _ _ _ _ h5) rfl ?_
  refine aw_iadd (pc := 25) dX11_feed_25 ?_
  refine aw_istore (pc := 26) (ls' := [(6, .inl (aw_w ((aw_w ((aw_w ((aw_w (r1 + r2)) + r3)) + r4)) + r5))), (0, .inr (.inr 0)), (1, .inl x1), (2, .inl x2), (3, .inl x3), (4, .inl x4), (5, .inl x5)]) dX11_feed_26 (by decide) rfl ?_
  refine aw_aload_n (pc := 28) (q := 1) dX11_feed_28 rfl ?_
  refine aw_getf (pc := 29) (v := .inr (.inr 1)) dX11_feed_29 fl_RX11_10 (by decide) rfl rfl rfl ?_
  refine aw_getf (pc := 32) (v := .inl (w5 1 1)) dX11_feed_32 fl_RX11_106 (by decide) rfl rfl rfl ?_
  refine aw_iload (pc := 35) (q := 0) dX11_feed_35 rfl ?_
  refine aw_iadd (pc := 37) dX11_feed_37 ?_
  refine aw_sipush (pc := 38) dX11_feed_38 (by decide) ⟨by decide, by decide⟩ ?_
  refine aw_icmp_le (pc := 41) (tgt := 46) dX11_feed_41 (by decide) (fun hc => ?_) (fun hc => ?_)
  · rw [if_pos hc] at h
    refine aw_aload_n (pc := 46) (q := 1) dX11_feed_46 rfl ?_
    refine aw_getf (pc := 47) (v := .inr (.inr 1)) dX11_feed_47 fl_RX11_10 (by decide) rfl rfl rfl ?_
    refine aw_iload_n (pc := 50) (q := 2) dX11_feed_50 rfl ?_
    obtain ⟨w6, h6, h⟩ := aw_b1s h
    refine aw_callV (pc := 51) (as := [.inl x1]) (st := []) (st' := []) dX11_feed_51 cv_RX11_110 (by decide) rfl rfl rfl rfl (Nat.le_of_ble_eq_true rfl) (w_x_Tape_add N d (by omega) _ _ _ h6) rfl ?_
    refine aw_aload_n (pc := 54) (q := 1) dX11_feed_54 rfl ?_
    refine aw_getf (pc := 55) (v := .inr (.inr 1)) dX11_feed_55 fl_RX11_10 (by decide) rfl rfl rfl ?_
    refine aw_iload_n (pc := 58) (q := 3) dX11_feed_58 rfl ?_
    obtain ⟨w7, h7, h⟩ := aw_b1s h
    refine aw_callV (pc := 59) (as := [.inl x2]) (st := []) (st' := []) dX11_feed_59 cv_RX11_110 (by decide) rfl rfl rfl rfl (Nat.le_of_ble_eq_true rfl) (w_x_Tape_add N d (by omega) _ _ _ h7) rfl ?_
    refine aw_aload_n (pc := 62) (q := 1) dX11_feed_62 rfl ?_
    refine aw_getf (pc := 63) (v := .inr (.inr 1)) dX11_feed_63 fl_RX11_10 (by decide) rfl rfl rfl ?_
    refine aw_iload_n (pc := 66) (q := 4) dX11_feed_66 rfl ?_
    obtain ⟨w8, h8, h⟩ := aw_b1s h
    refine aw_callV (pc := 67) (as := [.inl x3]) (st := []) (st' := []) dX11_feed_67 cv_RX11_110 (by decide) rfl rfl rfl rfl (Nat.le_of_ble_eq_true rfl) (w_x_Tape_add N d (by omega) _ _ _ h8) rfl ?_
    refine aw_aload_n (pc := 70) (q := 1) dX11_feed_70 rfl ?_
    refine aw_getf (pc := 71) (v := .inr (.inr 1)) dX11_feed_71 fl_RX11_10 (by decide) rfl rfl rfl ?_
    refine aw_iload (pc := 74) (q := 5) dX11_feed_74 rfl ?_
    obtain ⟨w9, h9, h⟩ := aw_b1s h
    refine aw_callV (pc := 76) (as := [.inl x4]) (st := []) (st' := []) dX11_feed_76 cv_RX11_110 (by decide) rfl rfl rfl rfl (Nat.le_of_ble_eq_true rfl) (w_x_Tape_add N d (by omega) _ _ _ h9) rfl ?_
    refine aw_aload_n (pc := 79) (q := 1) dX11_feed_79 rfl ?_
    refine aw_getf (pc := 80) (v := .inr (.inr 1)) dX11_feed_80 fl_RX11_10 (by decide) rfl rfl rfl ?_
    refine aw_iload (pc := 83) (q := 6) dX11_feed_83 rfl ?_
    obtain ⟨w10, h10, h⟩ := aw_b1s h
    refine aw_callV (pc := 85) (as := [.inl x5]) (st := []) (st' := []) dX11_feed_85 cv_RX11_110 (by decide) rfl rfl rfl rfl (Nat.le_of_ble_eq_true rfl) (w_x_Tape_add N d (by omega) _ _ _ h10) rfl ?_
    refine aw_aload_n (pc := 88) (q := 1) dX11_feed_88 rfl ?_
    refine aw_getf (pc := 89) (v := .inr (.inr 1)) dX11_feed_89 fl_RX11_10 (by decide) rfl rfl rfl ?_
    refine aw_getf (pc := 92) (v := .inl (w10 1 1)) dX11_feed_92 fl_RX11_106 (by decide) rfl rfl rfl ?_
    cases h
    exact aw_iret (pc := 95) rfl dX11_feed_95
  · rw [if_neg hc] at h
    refine aw_iconst (pc := 44) dX11_feed_44 ⟨by decide, by decide⟩ ?_
    cases h
    exact aw_iret (pc := 45) rfl dX11_feed_45
theorem w_x_feed {l : Launch} {K : aw_K} (N d : Nat) (hd : 1 ≤ d) : ∀ (x1 x2 x3 x4 x5 : Int) (w : aw_W) (y : Int) (v : aw_W), x_feed N x1 x2 x3 x4 x5 w = some (y, v) → aw_Met l K MX11_feed (d) [.inr (.inr 0), .inl x1, .inl x2, .inl x3, .inl x4, .inl x5] w (some (.inl y), v) := by
  obtain ⟨e, rfl⟩ : ∃ e, d = e + 1 := ⟨d - 1, by omega⟩
  exact w_x_feed_d N e (by omega)
theorem dX1_holdsSome_0 : decode cX1_holdsSome 0 = .ok (.iload_n 1, 1) := by decide +kernel
theorem dX1_holdsSome_1 : decode cX1_holdsSome 1 = .ok (.ifCond .le 15, 3) := by decide +kernel
theorem dX1_holdsSome_4 : decode cX1_holdsSome 4 = .ok (.iload_n 1, 1) := by decide +kernel
theorem dX1_holdsSome_5 : decode cX1_holdsSome 5 = .ok (.aload_n 0, 1) := by decide +kernel
theorem dX1_holdsSome_6 : decode cX1_holdsSome 6 = .ok (.invokevirtual 25, 3) := by decide +kernel
theorem dX1_holdsSome_9 : decode cX1_holdsSome 9 = .ok (.if_icmp .gt 7, 3) := by decide +kernel
theorem dX1_holdsSome_12 : decode cX1_holdsSome 12 = .ok (.iconst 1, 1) := by decide +kernel
theorem dX1_holdsSome_13 : decode cX1_holdsSome 13 = .ok (.goto 4, 3) := by decide +kernel
theorem dX1_holdsSome_16 : decode cX1_holdsSome 16 = .ok (.iconst 0, 1) := by decide +kernel
theorem dX1_holdsSome_17 : decode cX1_holdsSome 17 = .ok (.ireturn, 1) := by decide +kernel
def x_Land_holdsSome_17 (N : Nat) (s0 : Int) (w : aw_W) : Option (Int × aw_W) :=
  if s0 = 0 ∨ s0 = 1 then
    some (s0, w)
  else none
theorem w_x_Land_holdsSome_17 {l : Launch} {K : aw_K} (N d : Nat) (hd : 0 ≤ d) : ∀ (s0 : Int) (w : aw_W) (y : Int) (v : aw_W), x_Land_holdsSome_17 N s0 w = some (y, v) → aw_AW l K MX1_holdsSome (d + 1) 17 [] [.inl s0] w (some (.inl y), v) := by
  intro s0 w y v h
  unfold x_Land_holdsSome_17 at h
  obtain ⟨hz, h⟩ := aw_cks h
  cases h
  exact aw_zret (pc := 17) rfl hz dX1_holdsSome_17
def x_Land_holdsSome_16 (N : Nat) (w : aw_W) : Option (Int × aw_W) :=
  x_Land_holdsSome_17 N 0 w
theorem w_x_Land_holdsSome_16 {l : Launch} {K : aw_K} (N d : Nat) (hd : 0 ≤ d) : ∀ (w : aw_W) (y : Int) (v : aw_W), x_Land_holdsSome_16 N w = some (y, v) → aw_AW l K MX1_holdsSome (d + 1) 16 [] [] w (some (.inl y), v) := by
  intro w y v h
  unfold x_Land_holdsSome_16 at h
  refine aw_iconst (pc := 16) dX1_holdsSome_16 ⟨by decide, by decide⟩ ?_
  exact aw_sel [] rfl (w_x_Land_holdsSome_17 N d hd  _ _ _ _ h)
def x_Land_holdsSome (N : Nat) (x1 : Int) (w : aw_W) : Option (Int × aw_W) :=
  if x1 ≤ 0 then
    x_Land_holdsSome_16 N w
  else
    aw_b2 (x_Land_all N w) fun r1 w1 =>
      if r1 < x1 then
        x_Land_holdsSome_16 N w1
      else
        x_Land_holdsSome_17 N 1 w1
theorem w_x_Land_holdsSome_d {l : Launch} {K : aw_K} (N d : Nat) (hd : 0 ≤ d) : ∀ (x1 : Int) (w : aw_W) (y : Int) (v : aw_W), x_Land_holdsSome N x1 w = some (y, v) → aw_Met l K MX1_holdsSome (d + 1) [.inr (.inr 3), .inl x1] w (some (.inl y), v) := by
  intro x1 w y v h
  unfold x_Land_holdsSome at h
  refine aw_enter rfl (Nat.le_of_ble_eq_true rfl) ?_
  show aw_AW l K MX1_holdsSome (d + 1) 0 [(0, .inr (.inr 3)), (1, .inl x1)] [] w (some (.inl y), v)
  refine aw_iload_n (pc := 0) (q := 1) dX1_holdsSome_0 rfl ?_
  refine aw_if_le (pc := 1) (tgt := 16) dX1_holdsSome_1 (by decide) (fun hc => ?_) (fun hc => ?_)
  · rw [if_pos hc] at h
    exact aw_sel [] rfl (w_x_Land_holdsSome_16 N d hd  _ _ _ h)
  · rw [if_neg hc] at h
    refine aw_iload_n (pc := 4) (q := 1) dX1_holdsSome_4 rfl ?_
    refine aw_aload_n (pc := 5) (q := 0) dX1_holdsSome_5 rfl ?_
    obtain ⟨r1, w1, h1, h⟩ := aw_b2s h
    refine aw_callV (pc := 6) (as := []) (st := [.inl x1]) (st' := [.inl r1, .inl x1]) dX1_holdsSome_6 cv_RX1_25 (by decide) rfl rfl rfl rfl (Nat.le_of_ble_eq_true rfl) (w_x_Land_all N d (by omega) _ _ _ h1) rfl ?_
    refine aw_icmp_gt (pc := 9) (tgt := 16) dX1_holdsSome_9 (by decide) (fun hc => ?_) (fun hc => ?_)
    · rw [if_pos hc] at h
      exact aw_sel [] rfl (w_x_Land_holdsSome_16 N d hd  _ _ _ h)
    · rw [if_neg hc] at h
      refine aw_iconst (pc := 12) dX1_holdsSome_12 ⟨by decide, by decide⟩ ?_
      refine aw_goto (pc := 13) (tgt := 17) dX1_holdsSome_13 (by decide) ?_
      exact aw_sel [] rfl (w_x_Land_holdsSome_17 N d hd  _ _ _ _ h)
theorem w_x_Land_holdsSome {l : Launch} {K : aw_K} (N d : Nat) (hd : 1 ≤ d) : ∀ (x1 : Int) (w : aw_W) (y : Int) (v : aw_W), x_Land_holdsSome N x1 w = some (y, v) → aw_Met l K MX1_holdsSome (d) [.inr (.inr 3), .inl x1] w (some (.inl y), v) := by
  obtain ⟨e, rfl⟩ : ∃ e, d = e + 1 := ⟨d - 1, by omega⟩
  exact w_x_Land_holdsSome_d N e (by omega)
theorem dX11_firm_0 : decode cX11_firm 0 = .ok (.aload_n 0, 1) := by decide +kernel
theorem dX11_firm_1 : decode cX11_firm 1 = .ok (.getfield 19, 3) := by decide +kernel
theorem dX11_firm_4 : decode cX11_firm 4 = .ok (.iload_n 2, 1) := by decide +kernel
theorem dX11_firm_5 : decode cX11_firm 5 = .ok (.invokevirtual 242, 3) := by decide +kernel
theorem dX11_firm_8 : decode cX11_firm 8 = .ok (.ifCond .eq 14, 3) := by decide +kernel
theorem dX11_firm_11 : decode cX11_firm 11 = .ok (.aload_n 0, 1) := by decide +kernel
theorem dX11_firm_12 : decode cX11_firm 12 = .ok (.getfield 38, 3) := by decide +kernel
theorem dX11_firm_15 : decode cX11_firm 15 = .ok (.iload_n 1, 1) := by decide +kernel
theorem dX11_firm_16 : decode cX11_firm 16 = .ok (.invokevirtual 188, 3) := by decide +kernel
theorem dX11_firm_19 : decode cX11_firm 19 = .ok (.ifCond .ne 5, 3) := by decide +kernel
theorem dX11_firm_22 : decode cX11_firm 22 = .ok (.iconst (-1), 1) := by decide +kernel
theorem dX11_firm_23 : decode cX11_firm 23 = .ok (.ireturn, 1) := by decide +kernel
theorem dX11_firm_24 : decode cX11_firm 24 = .ok (.aload_n 0, 1) := by decide +kernel
theorem dX11_firm_25 : decode cX11_firm 25 = .ok (.getfield 47, 3) := by decide +kernel
theorem dX11_firm_28 : decode cX11_firm 28 = .ok (.iload_n 2, 1) := by decide +kernel
theorem dX11_firm_29 : decode cX11_firm 29 = .ok (.invokevirtual 230, 3) := by decide +kernel
theorem dX11_firm_32 : decode cX11_firm 32 = .ok (.aload_n 0, 1) := by decide +kernel
theorem dX11_firm_33 : decode cX11_firm 33 = .ok (.getfield 47, 3) := by decide +kernel
theorem dX11_firm_36 : decode cX11_firm 36 = .ok (.getfield 233, 3) := by decide +kernel
theorem dX11_firm_39 : decode cX11_firm 39 = .ok (.iconst (-1), 1) := by decide +kernel
theorem dX11_firm_40 : decode cX11_firm 40 = .ok (.if_icmp .ne 7, 3) := by decide +kernel
theorem dX11_firm_43 : decode cX11_firm 43 = .ok (.iconst 1, 1) := by decide +kernel
theorem dX11_firm_44 : decode cX11_firm 44 = .ok (.goto 4, 3) := by decide +kernel
theorem dX11_firm_47 : decode cX11_firm 47 = .ok (.iconst 0, 1) := by decide +kernel
theorem dX11_firm_48 : decode cX11_firm 48 = .ok (.ireturn, 1) := by decide +kernel
def x_firm_22 (N : Nat) (w : aw_W) : Option (Int × aw_W) :=
  some ((-1), w)
theorem w_x_firm_22 {l : Launch} {K : aw_K} (N d : Nat) (hd : 4 ≤ d) : ∀ (w : aw_W) (y : Int) (v : aw_W), x_firm_22 N w = some (y, v) → aw_AW l K MX11_firm (d + 1) 22 [] [] w (some (.inl y), v) := by
  intro w y v h
  unfold x_firm_22 at h
  refine aw_iconst (pc := 22) dX11_firm_22 ⟨by decide, by decide⟩ ?_
  cases h
  exact aw_iret (pc := 23) rfl dX11_firm_23
def x_firm_48 (N : Nat) (s0 : Int) (w : aw_W) : Option (Int × aw_W) :=
  some (s0, w)
theorem w_x_firm_48 {l : Launch} {K : aw_K} (N d : Nat) (hd : 4 ≤ d) : ∀ (s0 : Int) (w : aw_W) (y : Int) (v : aw_W), x_firm_48 N s0 w = some (y, v) → aw_AW l K MX11_firm (d + 1) 48 [] [.inl s0] w (some (.inl y), v) := by
  intro s0 w y v h
  unfold x_firm_48 at h
  cases h
  exact aw_iret (pc := 48) rfl dX11_firm_48
def x_firm (N : Nat) (x1 x2 : Int) (w : aw_W) : Option (Int × aw_W) :=
  aw_b2 (x_Land_holdsSome N x2 w) fun r1 w1 =>
    if r1 = 0 then
      x_firm_22 N w1
    else
      aw_b2 (x_Sale_take N x1 w1) fun r2 w2 =>
        if r2 = 0 then
          x_firm_22 N w2
        else
          aw_b1 (x_Replies_better N x2 w2) fun w3 =>
            if (w3 22 2) = (-1) then
              x_firm_48 N 1 w3
            else
              x_firm_48 N 0 w3
theorem w_x_firm_d {l : Launch} {K : aw_K} (N d : Nat) (hd : 4 ≤ d) : ∀ (x1 x2 : Int) (w : aw_W) (y : Int) (v : aw_W), x_firm N x1 x2 w = some (y, v) → aw_Met l K MX11_firm (d + 1) [.inr (.inr 0), .inl x1, .inl x2] w (some (.inl y), v) := by
  intro x1 x2 w y v h
  unfold x_firm at h
  refine aw_enter rfl (Nat.le_of_ble_eq_true rfl) ?_
  show aw_AW l K MX11_firm (d + 1) 0 [(0, .inr (.inr 0)), (1, .inl x1), (2, .inl x2)] [] w (some (.inl y), v)
  refine aw_aload_n (pc := 0) (q := 0) dX11_firm_0 rfl ?_
  refine aw_getf (pc := 1) (v := .inr (.inr 3)) dX11_firm_1 fl_RX11_19 (by decide) rfl rfl rfl ?_
  refine aw_iload_n (pc := 4) (q := 2) dX11_firm_4 rfl ?_
  obtain ⟨r1, w1, h1, h⟩ := aw_b2s h
  refine aw_callV (pc := 5) (as := [.inl x2]) (st := []) (st' := [.inl r1]) dX11_firm_5 cv_RX11_242 (by decide) rfl rfl rfl rfl (Nat.le_of_ble_eq_true rfl) (w_x_Land_holdsSome N d (by omega) _ _ _ _ h1) rfl ?_
  refine aw_if_eq (pc := 8) (tgt := 22) dX11_firm_8 (by decide) (fun hc => ?_) (fun hc => ?_)
  · rw [if_pos hc] at h
    exact aw_sel [] rfl (w_x_firm_22 N d hd  _ _ _ h)
  · rw [if_neg hc] at h
    refine aw_aload_n (pc := 11) (q := 0) dX11_firm_11 rfl ?_
    refine aw_getf (pc := 12) (v := .inr (.inr 17)) dX11_firm_12 fl_RX11_38 (by decide) rfl rfl rfl ?_
    refine aw_iload_n (pc := 15) (q := 1) dX11_firm_15 rfl ?_
    obtain ⟨r2, w2, h2, h⟩ := aw_b2s h
    refine aw_callV (pc := 16) (as := [.inl x1]) (st := []) (st' := [.inl r2]) dX11_firm_16 cv_RX11_188 (by decide) rfl rfl rfl rfl (Nat.le_of_ble_eq_true rfl) (w_x_Sale_take N d (by omega) _ _ _ _ h2) rfl ?_
    refine aw_if_ne (pc := 19) (tgt := 24) dX11_firm_19 (by decide) (fun hc => ?_) (fun hc => ?_)
    · rw [if_neg hc] at h
      refine aw_aload_n (pc := 24) (q := 0) dX11_firm_24 rfl ?_
      refine aw_getf (pc := 25) (v := .inr (.inr 22)) dX11_firm_25 fl_RX11_47 (by decide) rfl rfl rfl ?_
      refine aw_iload_n (pc := 28) (q := 2) dX11_firm_28 rfl ?_
      obtain ⟨w3, h3, h⟩ := aw_b1s h
      refine aw_callV (pc := 29) (as := [.inl x2]) (st := []) (st' := []) dX11_firm_29 cv_RX11_230 (by decide) rfl rfl rfl rfl (Nat.le_of_ble_eq_true rfl) (w_x_Replies_better N d (by omega) _ _ _ h3) rfl ?_
      refine aw_aload_n (pc := 32) (q := 0) dX11_firm_32 rfl ?_
      refine aw_getf (pc := 33) (v := .inr (.inr 22)) dX11_firm_33 fl_RX11_47 (by decide) rfl rfl rfl ?_
      refine aw_getf (pc := 36) (v := .inl (w3 22 2)) dX11_firm_36 fl_RX11_233 (by decide) rfl rfl rfl ?_
      refine aw_iconst (pc := 39) dX11_firm_39 ⟨by decide, by decide⟩ ?_
      refine aw_icmp_ne (pc := 40) (tgt := 47) dX11_firm_40 (by decide) (fun hc => ?_) (fun hc => ?_)
      · rw [if_neg hc] at h
        refine aw_iconst (pc := 47) dX11_firm_47 ⟨by decide, by decide⟩ ?_
        exact aw_sel [] rfl (w_x_firm_48 N d hd  _ _ _ _ h)
      · rw [if_pos hc] at h
        refine aw_iconst (pc := 43) dX11_firm_43 ⟨by decide, by decide⟩ ?_
        refine aw_goto (pc := 44) (tgt := 48) dX11_firm_44 (by decide) ?_
        exact aw_sel [] rfl (w_x_firm_48 N d hd  _ _ _ _ h)
    · rw [if_pos hc] at h
      exact aw_sel [] rfl (w_x_firm_22 N d hd  _ _ _ h)
theorem w_x_firm {l : Launch} {K : aw_K} (N d : Nat) (hd : 5 ≤ d) : ∀ (x1 x2 : Int) (w : aw_W) (y : Int) (v : aw_W), x_firm N x1 x2 w = some (y, v) → aw_Met l K MX11_firm (d) [.inr (.inr 0), .inl x1, .inl x2] w (some (.inl y), v) := by
  obtain ⟨e, rfl⟩ : ∃ e, d = e + 1 := ⟨d - 1, by omega⟩
  exact w_x_firm_d N e (by omega)
theorem dX11_gain_0 : decode cX11_gain 0 = .ok (.aload_n 0, 1) := by decide +kernel
theorem dX11_gain_1 : decode cX11_gain 1 = .ok (.getfield 19, 3) := by decide +kernel
theorem dX11_gain_4 : decode cX11_gain 4 = .ok (.iload_n 2, 1) := by decide +kernel
theorem dX11_gain_5 : decode cX11_gain 5 = .ok (.invokevirtual 137, 3) := by decide +kernel
theorem dX11_gain_8 : decode cX11_gain 8 = .ok (.ifCond .eq 14, 3) := by decide +kernel
theorem dX11_gain_11 : decode cX11_gain 11 = .ok (.aload_n 0, 1) := by decide +kernel
theorem dX11_gain_12 : decode cX11_gain 12 = .ok (.getfield 38, 3) := by decide +kernel
theorem dX11_gain_15 : decode cX11_gain 15 = .ok (.iload_n 1, 1) := by decide +kernel
theorem dX11_gain_16 : decode cX11_gain 16 = .ok (.invokevirtual 188, 3) := by decide +kernel
theorem dX11_gain_19 : decode cX11_gain 19 = .ok (.ifCond .ne 6, 3) := by decide +kernel
theorem dX11_gain_22 : decode cX11_gain 22 = .ok (.ldc 165, 2) := by decide +kernel
theorem dX11_gain_24 : decode cX11_gain 24 = .ok (.ireturn, 1) := by decide +kernel
theorem dX11_gain_25 : decode cX11_gain 25 = .ok (.aload_n 0, 1) := by decide +kernel
theorem dX11_gain_26 : decode cX11_gain 26 = .ok (.getfield 38, 3) := by decide +kernel
theorem dX11_gain_29 : decode cX11_gain 29 = .ok (.invokevirtual 191, 3) := by decide +kernel
theorem dX11_gain_32 : decode cX11_gain 32 = .ok (.aload_n 0, 1) := by decide +kernel
theorem dX11_gain_33 : decode cX11_gain 33 = .ok (.getfield 38, 3) := by decide +kernel
theorem dX11_gain_36 : decode cX11_gain 36 = .ok (.iload_n 2, 1) := by decide +kernel
theorem dX11_gain_37 : decode cX11_gain 37 = .ok (.invokevirtual 205, 3) := by decide +kernel
theorem dX11_gain_40 : decode cX11_gain 40 = .ok (.ireturn, 1) := by decide +kernel
def x_gain_22 (N : Nat) (w : aw_W) : Option (Int × aw_W) :=
  some ((-1000000), w)
theorem w_x_gain_22 {l : Launch} {K : aw_K} (N d : Nat) (hd : 2 ≤ d) : ∀ (w : aw_W) (y : Int) (v : aw_W), x_gain_22 N w = some (y, v) → aw_AW l K MX11_gain (d + 1) 22 [] [] w (some (.inl y), v) := by
  intro w y v h
  unfold x_gain_22 at h
  refine aw_ldc (pc := 22) (x := (-1000000)) dX11_gain_22 cn_RX11_165 ⟨by decide, by decide⟩ ?_
  cases h
  exact aw_iret (pc := 24) rfl dX11_gain_24
def x_gain (N : Nat) (x1 x2 : Int) (w : aw_W) : Option (Int × aw_W) :=
  aw_b2 (x_Land_holds N x2 w) fun r1 w1 =>
    if r1 = 0 then
      x_gain_22 N w1
    else
      aw_b2 (x_Sale_take N x1 w1) fun r2 w2 =>
        if r2 = 0 then
          x_gain_22 N w2
        else
          aw_b1 (x_Sale_settle N w2) fun w3 =>
            aw_b2 (x_Sale_gainOf N x2 w3) fun r4 w4 =>
              some (r4, w4)
theorem w_x_gain_d {l : Launch} {K : aw_K} (N d : Nat) (hd : 2 ≤ d) : ∀ (x1 x2 : Int) (w : aw_W) (y : Int) (v : aw_W), x_gain N x1 x2 w = some (y, v) → aw_Met l K MX11_gain (d + 1) [.inr (.inr 0), .inl x1, .inl x2] w (some (.inl y), v) := by
  intro x1 x2 w y v h
  unfold x_gain at h
  refine aw_enter rfl (Nat.le_of_ble_eq_true rfl) ?_
  show aw_AW l K MX11_gain (d + 1) 0 [(0, .inr (.inr 0)), (1, .inl x1), (2, .inl x2)] [] w (some (.inl y), v)
  refine aw_aload_n (pc := 0) (q := 0) dX11_gain_0 rfl ?_
  refine aw_getf (pc := 1) (v := .inr (.inr 3)) dX11_gain_1 fl_RX11_19 (by decide) rfl rfl rfl ?_
  refine aw_iload_n (pc := 4) (q := 2) dX11_gain_4 rfl ?_
  obtain ⟨r1, w1, h1, h⟩ := aw_b2s h
  refine aw_callV (pc := 5) (as := [.inl x2]) (st := []) (st' := [.inl r1]) dX11_gain_5 cv_RX11_137 (by decide) rfl rfl rfl rfl (Nat.le_of_ble_eq_true rfl) (w_x_Land_holds N d (by omega) _ _ _ _ h1) rfl ?_
  refine aw_if_eq (pc := 8) (tgt := 22) dX11_gain_8 (by decide) (fun hc => ?_) (fun hc => ?_)
  · rw [if_pos hc] at h
    exact aw_sel [] rfl (w_x_gain_22 N d hd  _ _ _ h)
  · rw [if_neg hc] at h
    refine aw_aload_n (pc := 11) (q := 0) dX11_gain_11 rfl ?_
    refine aw_getf (pc := 12) (v := .inr (.inr 17)) dX11_gain_12 fl_RX11_38 (by decide) rfl rfl rfl ?_
    refine aw_iload_n (pc := 15) (q := 1) dX11_gain_15 rfl ?_
    obtain ⟨r2, w2, h2, h⟩ := aw_b2s h
    refine aw_callV (pc := 16) (as := [.inl x1]) (st := []) (st' := [.inl r2]) dX11_gain_16 cv_RX11_188 (by decide) rfl rfl rfl rfl (Nat.le_of_ble_eq_true rfl) (w_x_Sale_take N d (by omega) _ _ _ _ h2) rfl ?_
    refine aw_if_ne (pc := 19) (tgt := 25) dX11_gain_19 (by decide) (fun hc => ?_) (fun hc => ?_)
    · rw [if_neg hc] at h
      refine aw_aload_n (pc := 25) (q := 0) dX11_gain_25 rfl ?_
      refine aw_getf (pc := 26) (v := .inr (.inr 17)) dX11_gain_26 fl_RX11_38 (by decide) rfl rfl rfl ?_
      obtain ⟨w3, h3, h⟩ := aw_b1s h
      refine aw_callV (pc := 29) (as := []) (st := []) (st' := []) dX11_gain_29 cv_RX11_191 (by decide) rfl rfl rfl rfl (Nat.le_of_ble_eq_true rfl) (w_x_Sale_settle N d (by omega) _ _ h3) rfl ?_
      refine aw_aload_n (pc := 32) (q := 0) dX11_gain_32 rfl ?_
      refine aw_getf (pc := 33) (v := .inr (.inr 17)) dX11_gain_33 fl_RX11_38 (by decide) rfl rfl rfl ?_
      refine aw_iload_n (pc := 36) (q := 2) dX11_gain_36 rfl ?_
      obtain ⟨r4, w4, h4, h⟩ := aw_b2s h
      refine aw_callV (pc := 37) (as := [.inl x2]) (st := []) (st' := [.inl r4]) dX11_gain_37 cv_RX11_205 (by decide) rfl rfl rfl rfl (Nat.le_of_ble_eq_true rfl) (w_x_Sale_gainOf N d (by omega) _ _ _ _ h4) rfl ?_
      cases h
      exact aw_iret (pc := 40) rfl dX11_gain_40
    · rw [if_pos hc] at h
      exact aw_sel [] rfl (w_x_gain_22 N d hd  _ _ _ h)
theorem w_x_gain {l : Launch} {K : aw_K} (N d : Nat) (hd : 3 ≤ d) : ∀ (x1 x2 : Int) (w : aw_W) (y : Int) (v : aw_W), x_gain N x1 x2 w = some (y, v) → aw_Met l K MX11_gain (d) [.inr (.inr 0), .inl x1, .inl x2] w (some (.inl y), v) := by
  obtain ⟨e, rfl⟩ : ∃ e, d = e + 1 := ⟨d - 1, by omega⟩
  exact w_x_gain_d N e (by omega)
theorem dX0_add_0 : decode cX0_add 0 = .ok (.aload_n 0, 1) := by decide +kernel
theorem dX0_add_1 : decode cX0_add 1 = .ok (.getfield 32, 3) := by decide +kernel
theorem dX0_add_4 : decode cX0_add 4 = .ok (.aload_n 0, 1) := by decide +kernel
theorem dX0_add_5 : decode cX0_add 5 = .ok (.getfield 9, 3) := by decide +kernel
theorem dX0_add_8 : decode cX0_add 8 = .ok (.arraylength, 1) := by decide +kernel
theorem dX0_add_9 : decode cX0_add 9 = .ok (.if_icmp .ge 23, 3) := by decide +kernel
theorem dX0_add_12 : decode cX0_add 12 = .ok (.aload_n 0, 1) := by decide +kernel
theorem dX0_add_13 : decode cX0_add 13 = .ok (.getfield 9, 3) := by decide +kernel
theorem dX0_add_16 : decode cX0_add 16 = .ok (.aload_n 0, 1) := by decide +kernel
theorem dX0_add_17 : decode cX0_add 17 = .ok (.getfield 32, 3) := by decide +kernel
theorem dX0_add_20 : decode cX0_add 20 = .ok (.iload_n 1, 1) := by decide +kernel
theorem dX0_add_21 : decode cX0_add 21 = .ok (.iastore, 1) := by decide +kernel
theorem dX0_add_22 : decode cX0_add 22 = .ok (.aload_n 0, 1) := by decide +kernel
theorem dX0_add_23 : decode cX0_add 23 = .ok (.dup, 1) := by decide +kernel
theorem dX0_add_24 : decode cX0_add 24 = .ok (.getfield 32, 3) := by decide +kernel
theorem dX0_add_27 : decode cX0_add 27 = .ok (.iconst 1, 1) := by decide +kernel
theorem dX0_add_28 : decode cX0_add 28 = .ok (.iadd, 1) := by decide +kernel
theorem dX0_add_29 : decode cX0_add 29 = .ok (.putfield 32, 3) := by decide +kernel
theorem dX0_add_32 : decode cX0_add 32 = .ok (.return_, 1) := by decide +kernel
def x_Book_add_32 (N : Nat) (w : aw_W) : Option (aw_W) :=
  some w
theorem w_x_Book_add_32 {l : Launch} {K : aw_K} (N d : Nat) : ∀ (w v : aw_W), x_Book_add_32 N w = some v → aw_AW l K MX0_add (d) 32 [] [] w (none, v) := by
  intro w v h
  unfold x_Book_add_32 at h
  cases h
  exact aw_vret (pc := 32) rfl dX0_add_32
def x_Book_add (N : Nat) (x1 : Int) (w : aw_W) : Option (aw_W) :=
  if 40 ≤ (w 41 4) then
    x_Book_add_32 N w
  else
    if 0 ≤ (w 41 4) ∧ (w 41 4) < 40 then
      x_Book_add_32 N (aw_up (aw_up w 42 ((w 41 4).toNat) x1) 41 4 (aw_w ((w 41 4) + 1)))
    else none
theorem w_x_Book_add {l : Launch} {K : aw_K} (N d : Nat) (hd : 0 ≤ d) : ∀ (x1 : Int) (w v : aw_W), x_Book_add N x1 w = some v → aw_Met l K MX0_add (d) [.inr (.inr 41), .inl x1] w (none, v) := by
  intro x1 w v h
  unfold x_Book_add at h
  refine aw_enter rfl (Nat.le_of_ble_eq_true rfl) ?_
  show aw_AW l K MX0_add (d) 0 [(0, .inr (.inr 41)), (1, .inl x1)] [] w (none, v)
  refine aw_aload_n (pc := 0) (q := 0) dX0_add_0 rfl ?_
  refine aw_getf (pc := 1) (v := .inl (w 41 4)) dX0_add_1 fl_RX0_32 (by decide) rfl rfl rfl ?_
  refine aw_aload_n (pc := 4) (q := 0) dX0_add_4 rfl ?_
  refine aw_getf (pc := 5) (v := .inr (.inr 42)) dX0_add_5 fl_RX0_9 (by decide) rfl rfl rfl ?_
  refine aw_alenv (pc := 8) (x := 40) dX0_add_8 (by decide) rfl (by decide) rfl ⟨by decide, by decide⟩ ?_
  refine aw_icmp_ge (pc := 9) (tgt := 32) dX0_add_9 (by decide) (fun hc => ?_) (fun hc => ?_)
  · rw [if_pos hc] at h
    exact aw_sel [] rfl (w_x_Book_add_32 N d  _ _ h)
  · rw [if_neg hc] at h
    refine aw_aload_n (pc := 12) (q := 0) dX0_add_12 rfl ?_
    refine aw_getf (pc := 13) (v := .inr (.inr 42)) dX0_add_13 fl_RX0_9 (by decide) rfl rfl rfl ?_
    refine aw_aload_n (pc := 16) (q := 0) dX0_add_16 rfl ?_
    refine aw_getf (pc := 17) (v := .inl (w 41 4)) dX0_add_17 fl_RX0_32 (by decide) rfl rfl rfl ?_
    refine aw_iload_n (pc := 20) (q := 1) dX0_add_20 rfl ?_
    obtain ⟨hb, h⟩ := aw_cks h
    refine aw_iast (pc := 21) dX0_add_21 rfl hb.1 hb.2 ?_
    refine aw_aload_n (pc := 22) (q := 0) dX0_add_22 rfl ?_
    refine aw_dup (pc := 23) dX0_add_23 rfl ?_
    refine aw_getf (pc := 24) (v := .inl (w 41 4)) dX0_add_24 fl_RX0_32 (by decide) rfl rfl rfl ?_
    refine aw_iconst (pc := 27) dX0_add_27 ⟨by decide, by decide⟩ ?_
    refine aw_iadd (pc := 28) dX0_add_28 ?_
    refine aw_puti (pc := 29) dX0_add_29 fp_RX0_32 (by decide) rfl rfl ?_
    exact aw_sel [] rfl (w_x_Book_add_32 N d  _ _ h)
theorem dX11_honour_0 : decode cX11_honour 0 = .ok (.aload_n 0, 1) := by decide +kernel
theorem dX11_honour_1 : decode cX11_honour 1 = .ok (.getfield 84, 3) := by decide +kernel
theorem dX11_honour_4 : decode cX11_honour 4 = .ok (.getfield 132, 3) := by decide +kernel
theorem dX11_honour_7 : decode cX11_honour 7 = .ok (.bipush 40, 2) := by decide +kernel
theorem dX11_honour_9 : decode cX11_honour 9 = .ok (.if_icmp .ge 14, 3) := by decide +kernel
theorem dX11_honour_12 : decode cX11_honour 12 = .ok (.aload_n 0, 1) := by decide +kernel
theorem dX11_honour_13 : decode cX11_honour 13 = .ok (.getfield 38, 3) := by decide +kernel
theorem dX11_honour_16 : decode cX11_honour 16 = .ok (.iload_n 1, 1) := by decide +kernel
theorem dX11_honour_17 : decode cX11_honour 17 = .ok (.invokevirtual 188, 3) := by decide +kernel
theorem dX11_honour_20 : decode cX11_honour 20 = .ok (.ifCond .ne 5, 3) := by decide +kernel
theorem dX11_honour_23 : decode cX11_honour 23 = .ok (.iconst (-1), 1) := by decide +kernel
theorem dX11_honour_24 : decode cX11_honour 24 = .ok (.ireturn, 1) := by decide +kernel
theorem dX11_honour_25 : decode cX11_honour 25 = .ok (.aload_n 0, 1) := by decide +kernel
theorem dX11_honour_26 : decode cX11_honour 26 = .ok (.getfield 84, 3) := by decide +kernel
theorem dX11_honour_29 : decode cX11_honour 29 = .ok (.iload_n 1, 1) := by decide +kernel
theorem dX11_honour_30 : decode cX11_honour 30 = .ok (.invokevirtual 280, 3) := by decide +kernel
theorem dX11_honour_33 : decode cX11_honour 33 = .ok (.aload_n 0, 1) := by decide +kernel
theorem dX11_honour_34 : decode cX11_honour 34 = .ok (.getfield 84, 3) := by decide +kernel
theorem dX11_honour_37 : decode cX11_honour 37 = .ok (.getfield 132, 3) := by decide +kernel
theorem dX11_honour_40 : decode cX11_honour 40 = .ok (.ireturn, 1) := by decide +kernel
def x_honour_23 (N : Nat) (w : aw_W) : Option (Int × aw_W) :=
  some ((-1), w)
theorem w_x_honour_23 {l : Launch} {K : aw_K} (N d : Nat) (hd : 1 ≤ d) : ∀ (w : aw_W) (y : Int) (v : aw_W), x_honour_23 N w = some (y, v) → aw_AW l K MX11_honour (d + 1) 23 [] [] w (some (.inl y), v) := by
  intro w y v h
  unfold x_honour_23 at h
  refine aw_iconst (pc := 23) dX11_honour_23 ⟨by decide, by decide⟩ ?_
  cases h
  exact aw_iret (pc := 24) rfl dX11_honour_24
def x_honour (N : Nat) (x1 : Int) (w : aw_W) : Option (Int × aw_W) :=
  if 40 ≤ (w 41 4) then
    x_honour_23 N w
  else
    aw_b2 (x_Sale_take N x1 w) fun r1 w1 =>
      if r1 = 0 then
        x_honour_23 N w1
      else
        aw_b1 (x_Book_add N x1 w1) fun w2 =>
          some (w2 41 4, w2)
theorem w_x_honour_d {l : Launch} {K : aw_K} (N d : Nat) (hd : 1 ≤ d) : ∀ (x1 : Int) (w : aw_W) (y : Int) (v : aw_W), x_honour N x1 w = some (y, v) → aw_Met l K MX11_honour (d + 1) [.inr (.inr 0), .inl x1] w (some (.inl y), v) := by
  intro x1 w y v h
  unfold x_honour at h
  refine aw_enter rfl (Nat.le_of_ble_eq_true rfl) ?_
  show aw_AW l K MX11_honour (d + 1) 0 [(0, .inr (.inr 0)), (1, .inl x1)] [] w (some (.inl y), v)
  refine aw_aload_n (pc := 0) (q := 0) dX11_honour_0 rfl ?_
  refine aw_getf (pc := 1) (v := .inr (.inr 41)) dX11_honour_1 fl_RX11_84 (by decide) rfl rfl rfl ?_
  refine aw_getf (pc := 4) (v := .inl (w 41 4)) dX11_honour_4 fl_RX11_132 (by decide) rfl rfl rfl ?_
  refine aw_bipush (pc := 7) dX11_honour_7 (by decide) ⟨by decide, by decide⟩ ?_
  refine aw_icmp_ge (pc := 9) (tgt := 23) dX11_honour_9 (by decide) (fun hc => ?_) (fun hc => ?_)
  · rw [if_pos hc] at h
    exact aw_sel [] rfl (w_x_honour_23 N d hd  _ _ _ h)
  · rw [if_neg hc] at h
    refine aw_aload_n (pc := 12) (q := 0) dX11_honour_12 rfl ?_
    refine aw_getf (pc := 13) (v := .inr (.inr 17)) dX11_honour_13 fl_RX11_38 (by decide) rfl rfl rfl ?_
    refine aw_iload_n (pc := 16) (q := 1) dX11_honour_16 rfl ?_
    obtain ⟨r1, w1, h1, h⟩ := aw_b2s h
    refine aw_callV (pc := 17) (as := [.inl x1]) (st := []) (st' := [.inl r1]) dX11_honour_17 cv_RX11_188 (by decide) rfl rfl rfl rfl (Nat.le_of_ble_eq_true rfl) (w_x_Sale_take N d (by omega) _ _ _ _ h1) rfl ?_
    refine aw_if_ne (pc := 20) (tgt := 25) dX11_honour_20 (by decide) (fun hc => ?_) (fun hc => ?_)
    · rw [if_neg hc] at h
      refine aw_aload_n (pc := 25) (q := 0) dX11_honour_25 rfl ?_
      refine aw_getf (pc := 26) (v := .inr (.inr 41)) dX11_honour_26 fl_RX11_84 (by decide) rfl rfl rfl ?_
      refine aw_iload_n (pc := 29) (q := 1) dX11_honour_29 rfl ?_
      obtain ⟨w2, h2, h⟩ := aw_b1s h
      refine aw_callV (pc := 30) (as := [.inl x1]) (st := []) (st' := []) dX11_honour_30 cv_RX11_280 (by decide) rfl rfl rfl rfl (Nat.le_of_ble_eq_true rfl) (w_x_Book_add N d (by omega) _ _ _ h2) rfl ?_
      refine aw_aload_n (pc := 33) (q := 0) dX11_honour_33 rfl ?_
      refine aw_getf (pc := 34) (v := .inr (.inr 41)) dX11_honour_34 fl_RX11_84 (by decide) rfl rfl rfl ?_
      refine aw_getf (pc := 37) (v := .inl (w2 41 4)) dX11_honour_37 fl_RX11_132 (by decide) rfl rfl rfl ?_
      cases h
      exact aw_iret (pc := 40) rfl dX11_honour_40
    · rw [if_pos hc] at h
      exact aw_sel [] rfl (w_x_honour_23 N d hd  _ _ _ h)
theorem w_x_honour {l : Launch} {K : aw_K} (N d : Nat) (hd : 2 ≤ d) : ∀ (x1 : Int) (w : aw_W) (y : Int) (v : aw_W), x_honour N x1 w = some (y, v) → aw_Met l K MX11_honour (d) [.inr (.inr 0), .inl x1] w (some (.inl y), v) := by
  obtain ⟨e, rfl⟩ : ∃ e, d = e + 1 := ⟨d - 1, by omega⟩
  exact w_x_honour_d N e (by omega)
theorem dX11_hope_0 : decode cX11_hope 0 = .ok (.aload_n 0, 1) := by decide +kernel
theorem dX11_hope_1 : decode cX11_hope 1 = .ok (.invokevirtual 208, 3) := by decide +kernel
theorem dX11_hope_4 : decode cX11_hope 4 = .ok (.ifCond .eq 40, 3) := by decide +kernel
theorem dX11_hope_7 : decode cX11_hope 7 = .ok (.aload_n 0, 1) := by decide +kernel
theorem dX11_hope_8 : decode cX11_hope 8 = .ok (.getfield 19, 3) := by decide +kernel
theorem dX11_hope_11 : decode cX11_hope 11 = .ok (.iload_n 1, 1) := by decide +kernel
theorem dX11_hope_12 : decode cX11_hope 12 = .ok (.invokevirtual 137, 3) := by decide +kernel
theorem dX11_hope_15 : decode cX11_hope 15 = .ok (.ifCond .eq 29, 3) := by decide +kernel
theorem dX11_hope_18 : decode cX11_hope 18 = .ok (.iload_n 2, 1) := by decide +kernel
theorem dX11_hope_19 : decode cX11_hope 19 = .ok (.ifCond .lt 25, 3) := by decide +kernel
theorem dX11_hope_22 : decode cX11_hope 22 = .ok (.iload_n 2, 1) := by decide +kernel
theorem dX11_hope_23 : decode cX11_hope 23 = .ok (.aload_n 0, 1) := by decide +kernel
theorem dX11_hope_24 : decode cX11_hope 24 = .ok (.getfield 19, 3) := by decide +kernel
theorem dX11_hope_27 : decode cX11_hope 27 = .ok (.getfield 151, 3) := by decide +kernel
theorem dX11_hope_30 : decode cX11_hope 30 = .ok (.iconst 4, 1) := by decide +kernel
theorem dX11_hope_31 : decode cX11_hope 31 = .ok (.iaload, 1) := by decide +kernel
theorem dX11_hope_32 : decode cX11_hope 32 = .ok (.if_icmp .gt 12, 3) := by decide +kernel
theorem dX11_hope_35 : decode cX11_hope 35 = .ok (.iload_n 3, 1) := by decide +kernel
theorem dX11_hope_36 : decode cX11_hope 36 = .ok (.ifCond .lt 8, 3) := by decide +kernel
theorem dX11_hope_39 : decode cX11_hope 39 = .ok (.iload_n 3, 1) := by decide +kernel
theorem dX11_hope_40 : decode cX11_hope 40 = .ok (.iconst 1, 1) := by decide +kernel
theorem dX11_hope_41 : decode cX11_hope 41 = .ok (.if_icmp .le 6, 3) := by decide +kernel
theorem dX11_hope_44 : decode cX11_hope 44 = .ok (.ldc 165, 2) := by decide +kernel
theorem dX11_hope_46 : decode cX11_hope 46 = .ok (.ireturn, 1) := by decide +kernel
theorem dX11_hope_47 : decode cX11_hope 47 = .ok (.aload_n 0, 1) := by decide +kernel
theorem dX11_hope_48 : decode cX11_hope 48 = .ok (.getfield 47, 3) := by decide +kernel
theorem dX11_hope_51 : decode cX11_hope 51 = .ok (.iload_n 1, 1) := by decide +kernel
theorem dX11_hope_52 : decode cX11_hope 52 = .ok (.iload_n 2, 1) := by decide +kernel
theorem dX11_hope_53 : decode cX11_hope 53 = .ok (.invokevirtual 300, 3) := by decide +kernel
theorem dX11_hope_56 : decode cX11_hope 56 = .ok (.iload_n 3, 1) := by decide +kernel
theorem dX11_hope_57 : decode cX11_hope 57 = .ok (.ifCond .ne 13, 3) := by decide +kernel
theorem dX11_hope_60 : decode cX11_hope 60 = .ok (.aload_n 0, 1) := by decide +kernel
theorem dX11_hope_61 : decode cX11_hope 61 = .ok (.getfield 47, 3) := by decide +kernel
theorem dX11_hope_64 : decode cX11_hope 64 = .ok (.getfield 304, 3) := by decide +kernel
theorem dX11_hope_67 : decode cX11_hope 67 = .ok (.goto 10, 3) := by decide +kernel
theorem dX11_hope_70 : decode cX11_hope 70 = .ok (.aload_n 0, 1) := by decide +kernel
theorem dX11_hope_71 : decode cX11_hope 71 = .ok (.getfield 47, 3) := by decide +kernel
theorem dX11_hope_74 : decode cX11_hope 74 = .ok (.getfield 307, 3) := by decide +kernel
theorem dX11_hope_77 : decode cX11_hope 77 = .ok (.ireturn, 1) := by decide +kernel
def x_hope_44 (N : Nat) (w : aw_W) : Option (Int × aw_W) :=
  some ((-1000000), w)
theorem w_x_hope_44 {l : Launch} {K : aw_K} (N d : Nat) (hd : 3 ≤ d) : ∀ (w : aw_W) (y : Int) (v : aw_W), x_hope_44 N w = some (y, v) → aw_AW l K MX11_hope (d + 1) 44 [] [] w (some (.inl y), v) := by
  intro w y v h
  unfold x_hope_44 at h
  refine aw_ldc (pc := 44) (x := (-1000000)) dX11_hope_44 cn_RX11_165 ⟨by decide, by decide⟩ ?_
  cases h
  exact aw_iret (pc := 46) rfl dX11_hope_46
def x_hope_77 (N : Nat) (s0 : Int) (w : aw_W) : Option (Int × aw_W) :=
  some (s0, w)
theorem w_x_hope_77 {l : Launch} {K : aw_K} (N d : Nat) (hd : 3 ≤ d) : ∀ (s0 : Int) (w : aw_W) (y : Int) (v : aw_W), x_hope_77 N s0 w = some (y, v) → aw_AW l K MX11_hope (d + 1) 77 [] [.inl s0] w (some (.inl y), v) := by
  intro s0 w y v h
  unfold x_hope_77 at h
  cases h
  exact aw_iret (pc := 77) rfl dX11_hope_77
def x_hope (N : Nat) (x1 x2 x3 : Int) (w : aw_W) : Option (Int × aw_W) :=
  aw_b2 (x_isSmall N w) fun r1 w1 =>
    if r1 = 0 then
      x_hope_44 N w1
    else
      aw_b2 (x_Land_holds N x1 w1) fun r2 w2 =>
        if r2 = 0 then
          x_hope_44 N w2
        else
          if x2 < 0 then
            x_hope_44 N w2
          else
            if (w2 5 4) < x2 then
              x_hope_44 N w2
            else
              if x3 < 0 then
                x_hope_44 N w2
              else
                if x3 ≤ 1 then
                  aw_b1 (x_Replies_against N x1 x2 w2) fun w3 =>
                    if x3 = 0 then
                      x_hope_77 N (w3 22 7) w3
                    else
                      x_hope_77 N (w3 22 8) w3
                else
                  x_hope_44 N w2
theorem w_x_hope_d {l : Launch} {K : aw_K} (N d : Nat) (hd : 3 ≤ d) : ∀ (x1 x2 x3 : Int) (w : aw_W) (y : Int) (v : aw_W), x_hope N x1 x2 x3 w = some (y, v) → aw_Met l K MX11_hope (d + 1) [.inr (.inr 0), .inl x1, .inl x2, .inl x3] w (some (.inl y), v) := by
  intro x1 x2 x3 w y v h
  unfold x_hope at h
  refine aw_enter rfl (Nat.le_of_ble_eq_true rfl) ?_
  show aw_AW l K MX11_hope (d + 1) 0 [(0, .inr (.inr 0)), (1, .inl x1), (2, .inl x2), (3, .inl x3)] [] w (some (.inl y), v)
  refine aw_aload_n (pc := 0) (q := 0) dX11_hope_0 rfl ?_
  obtain ⟨r1, w1, h1, h⟩ := aw_b2s h
  refine aw_callV (pc := 1) (as := []) (st := []) (st' := [.inl r1]) dX11_hope_1 cv_RX11_208 (by decide) rfl rfl rfl rfl (Nat.le_of_ble_eq_true rfl) (w_x_isSmall N d (by omega) _ _ _ h1) rfl ?_
  refine aw_if_eq (pc := 4) (tgt := 44) dX11_hope_4 (by decide) (fun hc => ?_) (fun hc => ?_)
  · rw [if_pos hc] at h
    exact aw_sel [] rfl (w_x_hope_44 N d hd  _ _ _ h)
  · rw [if_neg hc] at h
    refine aw_aload_n (pc := 7) (q := 0) dX11_hope_7 rfl ?_
    refine aw_getf (pc := 8) (v := .inr (.inr 3)) dX11_hope_8 fl_RX11_19 (by decide) rfl rfl rfl ?_
    refine aw_iload_n (pc := 11) (q := 1) dX11_hope_11 rfl ?_
    obtain ⟨r2, w2, h2, h⟩ := aw_b2s h
    refine aw_callV (pc := 12) (as := [.inl x1]) (st := []) (st' := [.inl r2]) dX11_hope_12 cv_RX11_137 (by decide) rfl rfl rfl rfl (Nat.le_of_ble_eq_true rfl) (w_x_Land_holds N d (by omega) _ _ _ _ h2) rfl ?_
    refine aw_if_eq (pc := 15) (tgt := 44) dX11_hope_15 (by decide) (fun hc => ?_) (fun hc => ?_)
    · rw [if_pos hc] at h
      exact aw_sel [] rfl (w_x_hope_44 N d hd  _ _ _ h)
    · rw [if_neg hc] at h
      refine aw_iload_n (pc := 18) (q := 2) dX11_hope_18 rfl ?_
      refine aw_if_lt (pc := 19) (tgt := 44) dX11_hope_19 (by decide) (fun hc => ?_) (fun hc => ?_)
      · rw [if_pos hc] at h
        exact aw_sel [] rfl (w_x_hope_44 N d hd  _ _ _ h)
      · rw [if_neg hc] at h
        refine aw_iload_n (pc := 22) (q := 2) dX11_hope_22 rfl ?_
        refine aw_aload_n (pc := 23) (q := 0) dX11_hope_23 rfl ?_
        refine aw_getf (pc := 24) (v := .inr (.inr 3)) dX11_hope_24 fl_RX11_19 (by decide) rfl rfl rfl ?_
        refine aw_getf (pc := 27) (v := .inr (.inr 5)) dX11_hope_27 fl_RX11_151 (by decide) rfl rfl rfl ?_
        refine aw_iconst (pc := 30) dX11_hope_30 ⟨by decide, by decide⟩ ?_
        refine aw_ialdv (pc := 31) (v := w2 5 4) dX11_hope_31 rfl (by decide) (by decide) rfl ?_
        refine aw_icmp_gt (pc := 32) (tgt := 44) dX11_hope_32 (by decide) (fun hc => ?_) (fun hc => ?_)
        · rw [if_pos hc] at h
          exact aw_sel [] rfl (w_x_hope_44 N d hd  _ _ _ h)
        · rw [if_neg hc] at h
          refine aw_iload_n (pc := 35) (q := 3) dX11_hope_35 rfl ?_
          refine aw_if_lt (pc := 36) (tgt := 44) dX11_hope_36 (by decide) (fun hc => ?_) (fun hc => ?_)
          · rw [if_pos hc] at h
            exact aw_sel [] rfl (w_x_hope_44 N d hd  _ _ _ h)
          · rw [if_neg hc] at h
            refine aw_iload_n (pc := 39) (q := 3) dX11_hope_39 rfl ?_
            refine aw_iconst (pc := 40) dX11_hope_40 ⟨by decide, by decide⟩ ?_
            refine aw_icmp_le (pc := 41) (tgt := 47) dX11_hope_41 (by decide) (fun hc => ?_) (fun hc => ?_)
            · rw [if_pos hc] at h
              refine aw_aload_n (pc := 47) (q := 0) dX11_hope_47 rfl ?_
              refine aw_getf (pc := 48) (v := .inr (.inr 22)) dX11_hope_48 fl_RX11_47 (by decide) rfl rfl rfl ?_
              refine aw_iload_n (pc := 51) (q := 1) dX11_hope_51 rfl ?_
              refine aw_iload_n (pc := 52) (q := 2) dX11_hope_52 rfl ?_
              obtain ⟨w3, h3, h⟩ := aw_b1s h
              refine aw_callV (pc := 53) (as := [.inl x1, .inl x2]) (st := []) (st' := []) dX11_hope_53 cv_RX11_300 (by decide) rfl rfl rfl rfl (Nat.le_of_ble_eq_true rfl) (w_x_Replies_against N d (by omega) _ _ _ _ h3) rfl ?_
              refine aw_iload_n (pc := 56) (q := 3) dX11_hope_56 rfl ?_
              refine aw_if_ne (pc := 57) (tgt := 70) dX11_hope_57 (by decide) (fun hc => ?_) (fun hc => ?_)
              · rw [if_neg hc] at h
                refine aw_aload_n (pc := 70) (q := 0) dX11_hope_70 rfl ?_
                refine aw_getf (pc := 71) (v := .inr (.inr 22)) dX11_hope_71 fl_RX11_47 (by decide) rfl rfl rfl ?_
                refine aw_getf (pc := 74) (v := .inl (w3 22 8)) dX11_hope_74 fl_RX11_307 (by decide) rfl rfl rfl ?_
                exact aw_sel [] rfl (w_x_hope_77 N d hd  _ _ _ _ h)
              · rw [if_pos hc] at h
                refine aw_aload_n (pc := 60) (q := 0) dX11_hope_60 rfl ?_
                refine aw_getf (pc := 61) (v := .inr (.inr 22)) dX11_hope_61 fl_RX11_47 (by decide) rfl rfl rfl ?_
                refine aw_getf (pc := 64) (v := .inl (w3 22 7)) dX11_hope_64 fl_RX11_304 (by decide) rfl rfl rfl ?_
                refine aw_goto (pc := 67) (tgt := 77) dX11_hope_67 (by decide) ?_
                exact aw_sel [] rfl (w_x_hope_77 N d hd  _ _ _ _ h)
            · rw [if_neg hc] at h
              exact aw_sel [] rfl (w_x_hope_44 N d hd  _ _ _ h)
theorem w_x_hope {l : Launch} {K : aw_K} (N d : Nat) (hd : 4 ≤ d) : ∀ (x1 x2 x3 : Int) (w : aw_W) (y : Int) (v : aw_W), x_hope N x1 x2 x3 w = some (y, v) → aw_Met l K MX11_hope (d) [.inr (.inr 0), .inl x1, .inl x2, .inl x3] w (some (.inl y), v) := by
  obtain ⟨e, rfl⟩ : ∃ e, d = e + 1 := ⟨d - 1, by omega⟩
  exact w_x_hope_d N e (by omega)
