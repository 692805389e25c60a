theorem dX7_readOpened_0 : decode cX7_readOpened 0 = .ok (.aload_n 1, 1) := by decide +kernel
theorem dX7_readOpened_1 : decode cX7_readOpened 1 = .ok (.dup, 1) := by decide +kernel
theorem dX7_readOpened_2 : decode cX7_readOpened 2 = .ok (.getfield 43, 3) := by decide +kernel
theorem dX7_readOpened_5 : decode cX7_readOpened 5 = .ok (.iconst 1, 1) := by decide +kernel
theorem dX7_readOpened_6 : decode cX7_readOpened 6 = .ok (.iadd, 1) := by decide +kernel
theorem dX7_readOpened_7 : decode cX7_readOpened 7 = .ok (.putfield 43, 3) := by decide +kernel
theorem dX7_readOpened_10 : decode cX7_readOpened 10 = .ok (.iload_n 3, 1) := by decide +kernel
theorem dX7_readOpened_11 : decode cX7_readOpened 11 = .ok (.bipush 40, 2) := by decide +kernel
theorem dX7_readOpened_13 : decode cX7_readOpened 13 = .ok (.if_icmp .ne 28, 3) := by decide +kernel
theorem dX7_readOpened_16 : decode cX7_readOpened 16 = .ok (.aload_n 0, 1) := by decide +kernel
theorem dX7_readOpened_17 : decode cX7_readOpened 17 = .ok (.aload_n 1, 1) := by decide +kernel
theorem dX7_readOpened_18 : decode cX7_readOpened 18 = .ok (.iload_n 2, 1) := by decide +kernel
theorem dX7_readOpened_19 : decode cX7_readOpened 19 = .ok (.iconst 0, 1) := by decide +kernel
theorem dX7_readOpened_20 : decode cX7_readOpened 20 = .ok (.invokevirtual 67, 3) := by decide +kernel
theorem dX7_readOpened_23 : decode cX7_readOpened 23 = .ok (.ifCond .eq 16, 3) := by decide +kernel
theorem dX7_readOpened_26 : decode cX7_readOpened 26 = .ok (.aload_n 1, 1) := by decide +kernel
theorem dX7_readOpened_27 : decode cX7_readOpened 27 = .ok (.bipush 41, 2) := by decide +kernel
theorem dX7_readOpened_29 : decode cX7_readOpened 29 = .ok (.invokevirtual 52, 3) := by decide +kernel
theorem dX7_readOpened_32 : decode cX7_readOpened 32 = .ok (.ifCond .eq 7, 3) := by decide +kernel
theorem dX7_readOpened_35 : decode cX7_readOpened 35 = .ok (.iconst 1, 1) := by decide +kernel
theorem dX7_readOpened_36 : decode cX7_readOpened 36 = .ok (.goto 4, 3) := by decide +kernel
theorem dX7_readOpened_39 : decode cX7_readOpened 39 = .ok (.iconst 0, 1) := by decide +kernel
theorem dX7_readOpened_40 : decode cX7_readOpened 40 = .ok (.ireturn, 1) := by decide +kernel
theorem dX7_readOpened_41 : decode cX7_readOpened 41 = .ok (.aload_n 0, 1) := by decide +kernel
theorem dX7_readOpened_42 : decode cX7_readOpened 42 = .ok (.aload_n 1, 1) := by decide +kernel
theorem dX7_readOpened_43 : decode cX7_readOpened 43 = .ok (.iload_n 2, 1) := by decide +kernel
theorem dX7_readOpened_44 : decode cX7_readOpened 44 = .ok (.iconst 0, 1) := by decide +kernel
theorem dX7_readOpened_45 : decode cX7_readOpened 45 = .ok (.invokevirtual 75, 3) := by decide +kernel
theorem dX7_readOpened_48 : decode cX7_readOpened 48 = .ok (.ifCond .ne 5, 3) := by decide +kernel
theorem dX7_readOpened_51 : decode cX7_readOpened 51 = .ok (.iconst 0, 1) := by decide +kernel
theorem dX7_readOpened_52 : decode cX7_readOpened 52 = .ok (.ireturn, 1) := by decide +kernel
theorem dX7_readOpened_53 : decode cX7_readOpened 53 = .ok (.aload_n 0, 1) := by decide +kernel
theorem dX7_readOpened_54 : decode cX7_readOpened 54 = .ok (.bipush (-33), 2) := by decide +kernel
theorem dX7_readOpened_56 : decode cX7_readOpened 56 = .ok (.invokevirtual 71, 3) := by decide +kernel
theorem dX7_readOpened_59 : decode cX7_readOpened 59 = .ok (.iconst 1, 1) := by decide +kernel
theorem dX7_readOpened_60 : decode cX7_readOpened 60 = .ok (.ireturn, 1) := by decide +kernel
theorem dX7_readUnit_0 : decode cX7_readUnit 0 = .ok (.iload_n 3, 1) := by decide +kernel
theorem dX7_readUnit_1 : decode cX7_readUnit 1 = .ok (.ifCond .ne 59, 3) := by decide +kernel
theorem dX7_readUnit_4 : decode cX7_readUnit 4 = .ok (.aload_n 1, 1) := by decide +kernel
theorem dX7_readUnit_5 : decode cX7_readUnit 5 = .ok (.invokevirtual 56, 3) := by decide +kernel
theorem dX7_readUnit_8 : decode cX7_readUnit 8 = .ok (.istore 4, 2) := by decide +kernel
theorem dX7_readUnit_10 : decode cX7_readUnit 10 = .ok (.iload 4, 2) := by decide +kernel
theorem dX7_readUnit_12 : decode cX7_readUnit 12 = .ok (.bipush 33, 2) := by decide +kernel
theorem dX7_readUnit_14 : decode cX7_readUnit 14 = .ok (.if_icmp .eq 10, 3) := by decide +kernel
theorem dX7_readUnit_17 : decode cX7_readUnit 17 = .ok (.iload 4, 2) := by decide +kernel
theorem dX7_readUnit_19 : decode cX7_readUnit 19 = .ok (.bipush 40, 2) := by decide +kernel
theorem dX7_readUnit_21 : decode cX7_readUnit 21 = .ok (.if_icmp .ne 28, 3) := by decide +kernel
theorem dX7_readUnit_24 : decode cX7_readUnit 24 = .ok (.iload_n 2, 1) := by decide +kernel
theorem dX7_readUnit_25 : decode cX7_readUnit 25 = .ok (.bipush 6, 2) := by decide +kernel
theorem dX7_readUnit_27 : decode cX7_readUnit 27 = .ok (.if_icmp .ge 20, 3) := by decide +kernel
theorem dX7_readUnit_30 : decode cX7_readUnit 30 = .ok (.aload_n 0, 1) := by decide +kernel
theorem dX7_readUnit_31 : decode cX7_readUnit 31 = .ok (.aload_n 1, 1) := by decide +kernel
theorem dX7_readUnit_32 : decode cX7_readUnit 32 = .ok (.iload_n 2, 1) := by decide +kernel
theorem dX7_readUnit_33 : decode cX7_readUnit 33 = .ok (.iconst 1, 1) := by decide +kernel
theorem dX7_readUnit_34 : decode cX7_readUnit 34 = .ok (.iadd, 1) := by decide +kernel
theorem dX7_readUnit_35 : decode cX7_readUnit 35 = .ok (.iload 4, 2) := by decide +kernel
theorem dX7_readUnit_37 : decode cX7_readUnit 37 = .ok (.invokevirtual 78, 3) := by decide +kernel
theorem dX7_readUnit_40 : decode cX7_readUnit 40 = .ok (.ifCond .eq 7, 3) := by decide +kernel
theorem dX7_readUnit_43 : decode cX7_readUnit 43 = .ok (.iconst 1, 1) := by decide +kernel
theorem dX7_readUnit_44 : decode cX7_readUnit 44 = .ok (.goto 4, 3) := by decide +kernel
theorem dX7_readUnit_47 : decode cX7_readUnit 47 = .ok (.iconst 0, 1) := by decide +kernel
theorem dX7_readUnit_48 : decode cX7_readUnit 48 = .ok (.ireturn, 1) := by decide +kernel
theorem dX7_readUnit_49 : decode cX7_readUnit 49 = .ok (.aload_n 0, 1) := by decide +kernel
theorem dX7_readUnit_50 : decode cX7_readUnit 50 = .ok (.aload_n 1, 1) := by decide +kernel
theorem dX7_readUnit_51 : decode cX7_readUnit 51 = .ok (.iload_n 2, 1) := by decide +kernel
theorem dX7_readUnit_52 : decode cX7_readUnit 52 = .ok (.invokevirtual 60, 3) := by decide +kernel
theorem dX7_readUnit_55 : decode cX7_readUnit 55 = .ok (.ifCond .ne 5, 3) := by decide +kernel
theorem dX7_readUnit_58 : decode cX7_readUnit 58 = .ok (.iconst 0, 1) := by decide +kernel
theorem dX7_readUnit_59 : decode cX7_readUnit 59 = .ok (.ireturn, 1) := by decide +kernel
theorem dX7_readUnit_60 : decode cX7_readUnit 60 = .ok (.aload_n 1, 1) := by decide +kernel
theorem dX7_readUnit_61 : decode cX7_readUnit 61 = .ok (.invokevirtual 56, 3) := by decide +kernel
theorem dX7_readUnit_64 : decode cX7_readUnit 64 = .ok (.istore 4, 2) := by decide +kernel
theorem dX7_readUnit_66 : decode cX7_readUnit 66 = .ok (.iload 4, 2) := by decide +kernel
theorem dX7_readUnit_68 : decode cX7_readUnit 68 = .ok (.invokestatic 64, 3) := by decide +kernel
theorem dX7_readUnit_71 : decode cX7_readUnit 71 = .ok (.ifCond .ne 5, 3) := by decide +kernel
theorem dX7_readUnit_74 : decode cX7_readUnit 74 = .ok (.iconst 0, 1) := by decide +kernel
theorem dX7_readUnit_75 : decode cX7_readUnit 75 = .ok (.ireturn, 1) := by decide +kernel
theorem dX7_readUnit_76 : decode cX7_readUnit 76 = .ok (.aload_n 1, 1) := by decide +kernel
theorem dX7_readUnit_77 : decode cX7_readUnit 77 = .ok (.dup, 1) := by decide +kernel
theorem dX7_readUnit_78 : decode cX7_readUnit 78 = .ok (.getfield 43, 3) := by decide +kernel
theorem dX7_readUnit_81 : decode cX7_readUnit 81 = .ok (.iconst 1, 1) := by decide +kernel
theorem dX7_readUnit_82 : decode cX7_readUnit 82 = .ok (.iadd, 1) := by decide +kernel
theorem dX7_readUnit_83 : decode cX7_readUnit 83 = .ok (.putfield 43, 3) := by decide +kernel
theorem dX7_readUnit_86 : decode cX7_readUnit 86 = .ok (.aload_n 0, 1) := by decide +kernel
theorem dX7_readUnit_87 : decode cX7_readUnit 87 = .ok (.aload_n 1, 1) := by decide +kernel
theorem dX7_readUnit_88 : decode cX7_readUnit 88 = .ok (.iload_n 2, 1) := by decide +kernel
theorem dX7_readUnit_89 : decode cX7_readUnit 89 = .ok (.invokevirtual 60, 3) := by decide +kernel
theorem dX7_readUnit_92 : decode cX7_readUnit 92 = .ok (.ifCond .ne 5, 3) := by decide +kernel
theorem dX7_readUnit_95 : decode cX7_readUnit 95 = .ok (.iconst 0, 1) := by decide +kernel
theorem dX7_readUnit_96 : decode cX7_readUnit 96 = .ok (.ireturn, 1) := by decide +kernel
theorem dX7_readUnit_97 : decode cX7_readUnit 97 = .ok (.aload_n 0, 1) := by decide +kernel
theorem dX7_readUnit_98 : decode cX7_readUnit 98 = .ok (.iload 4, 2) := by decide +kernel
theorem dX7_readUnit_100 : decode cX7_readUnit 100 = .ok (.ineg, 1) := by decide +kernel
theorem dX7_readUnit_101 : decode cX7_readUnit 101 = .ok (.invokevirtual 71, 3) := by decide +kernel
theorem dX7_readUnit_104 : decode cX7_readUnit 104 = .ok (.iconst 1, 1) := by decide +kernel
theorem dX7_readUnit_105 : decode cX7_readUnit 105 = .ok (.ireturn, 1) := by decide +kernel
theorem dX7_readCondition_0 : decode cX7_readCondition 0 = .ok (.aload_n 0, 1) := by decide +kernel
theorem dX7_readCondition_1 : decode cX7_readCondition 1 = .ok (.aload_n 1, 1) := by decide +kernel
theorem dX7_readCondition_2 : decode cX7_readCondition 2 = .ok (.iload_n 2, 1) := by decide +kernel
theorem dX7_readCondition_3 : decode cX7_readCondition 3 = .ok (.iload_n 3, 1) := by decide +kernel
theorem dX7_readCondition_4 : decode cX7_readCondition 4 = .ok (.invokevirtual 75, 3) := by decide +kernel
theorem dX7_readCondition_7 : decode cX7_readCondition 7 = .ok (.ifCond .ne 5, 3) := by decide +kernel
theorem dX7_readCondition_10 : decode cX7_readCondition 10 = .ok (.iconst 0, 1) := by decide +kernel
theorem dX7_readCondition_11 : decode cX7_readCondition 11 = .ok (.ireturn, 1) := by decide +kernel
theorem dX7_readCondition_12 : decode cX7_readCondition 12 = .ok (.iconst 0, 1) := by decide +kernel
theorem dX7_readCondition_13 : decode cX7_readCondition 13 = .ok (.istore 4, 2) := by decide +kernel
theorem dX7_readCondition_15 : decode cX7_readCondition 15 = .ok (.iconst 0, 1) := by decide +kernel
theorem dX7_readCondition_16 : decode cX7_readCondition 16 = .ok (.istore 5, 2) := by decide +kernel
theorem dX7_readCondition_18 : decode cX7_readCondition 18 = .ok (.iload 5, 2) := by decide +kernel
theorem dX7_readCondition_20 : decode cX7_readCondition 20 = .ok (.sipush 160, 3) := by decide +kernel
theorem dX7_readCondition_23 : decode cX7_readCondition 23 = .ok (.if_icmp .ge 88, 3) := by decide +kernel
theorem dX7_readCondition_26 : decode cX7_readCondition 26 = .ok (.aload_n 1, 1) := by decide +kernel
theorem dX7_readCondition_27 : decode cX7_readCondition 27 = .ok (.invokevirtual 56, 3) := by decide +kernel
theorem dX7_readCondition_30 : decode cX7_readCondition 30 = .ok (.istore 6, 2) := by decide +kernel
theorem dX7_readCondition_32 : decode cX7_readCondition 32 = .ok (.iload 6, 2) := by decide +kernel
theorem dX7_readCondition_34 : decode cX7_readCondition 34 = .ok (.bipush 38, 2) := by decide +kernel
theorem dX7_readCondition_36 : decode cX7_readCondition 36 = .ok (.if_icmp .eq 13, 3) := by decide +kernel
theorem dX7_readCondition_39 : decode cX7_readCondition 39 = .ok (.iload 6, 2) := by decide +kernel
theorem dX7_readCondition_41 : decode cX7_readCondition 41 = .ok (.bipush 124, 2) := by decide +kernel
theorem dX7_readCondition_43 : decode cX7_readCondition 43 = .ok (.if_icmp .eq 6, 3) := by decide +kernel
theorem dX7_readCondition_46 : decode cX7_readCondition 46 = .ok (.goto 65, 3) := by decide +kernel
theorem dX7_readCondition_49 : decode cX7_readCondition 49 = .ok (.aload_n 1, 1) := by decide +kernel
theorem dX7_readCondition_50 : decode cX7_readCondition 50 = .ok (.dup, 1) := by decide +kernel
theorem dX7_readCondition_51 : decode cX7_readCondition 51 = .ok (.getfield 43, 3) := by decide +kernel
theorem dX7_readCondition_54 : decode cX7_readCondition 54 = .ok (.iconst 1, 1) := by decide +kernel
theorem dX7_readCondition_55 : decode cX7_readCondition 55 = .ok (.iadd, 1) := by decide +kernel
theorem dX7_readCondition_56 : decode cX7_readCondition 56 = .ok (.putfield 43, 3) := by decide +kernel
theorem dX7_readCondition_59 : decode cX7_readCondition 59 = .ok (.iload 6, 2) := by decide +kernel
theorem dX7_readCondition_61 : decode cX7_readCondition 61 = .ok (.bipush 124, 2) := by decide +kernel
theorem dX7_readCondition_63 : decode cX7_readCondition 63 = .ok (.if_icmp .ne 17, 3) := by decide +kernel
theorem dX7_readCondition_66 : decode cX7_readCondition 66 = .ok (.iload 4, 2) := by decide +kernel
theorem dX7_readCondition_68 : decode cX7_readCondition 68 = .ok (.ifCond .eq 9, 3) := by decide +kernel
theorem dX7_readCondition_71 : decode cX7_readCondition 71 = .ok (.aload_n 0, 1) := by decide +kernel
theorem dX7_readCondition_72 : decode cX7_readCondition 72 = .ok (.bipush (-124), 2) := by decide +kernel
theorem dX7_readCondition_74 : decode cX7_readCondition 74 = .ok (.invokevirtual 71, 3) := by decide +kernel
theorem dX7_readCondition_77 : decode cX7_readCondition 77 = .ok (.iconst 1, 1) := by decide +kernel
theorem dX7_readCondition_78 : decode cX7_readCondition 78 = .ok (.istore 4, 2) := by decide +kernel
theorem dX7_readCondition_80 : decode cX7_readCondition 80 = .ok (.aload_n 0, 1) := by decide +kernel
theorem dX7_readCondition_81 : decode cX7_readCondition 81 = .ok (.aload_n 1, 1) := by decide +kernel
theorem dX7_readCondition_82 : decode cX7_readCondition 82 = .ok (.iload_n 2, 1) := by decide +kernel
theorem dX7_readCondition_83 : decode cX7_readCondition 83 = .ok (.iconst 0, 1) := by decide +kernel
theorem dX7_readCondition_84 : decode cX7_readCondition 84 = .ok (.invokevirtual 75, 3) := by decide +kernel
theorem dX7_readCondition_87 : decode cX7_readCondition 87 = .ok (.ifCond .ne 5, 3) := by decide +kernel
theorem dX7_readCondition_90 : decode cX7_readCondition 90 = .ok (.iconst 0, 1) := by decide +kernel
theorem dX7_readCondition_91 : decode cX7_readCondition 91 = .ok (.ireturn, 1) := by decide +kernel
theorem dX7_readCondition_92 : decode cX7_readCondition 92 = .ok (.iload 6, 2) := by decide +kernel
theorem dX7_readCondition_94 : decode cX7_readCondition 94 = .ok (.bipush 38, 2) := by decide +kernel
theorem dX7_readCondition_96 : decode cX7_readCondition 96 = .ok (.if_icmp .ne 9, 3) := by decide +kernel
theorem dX7_readCondition_99 : decode cX7_readCondition 99 = .ok (.aload_n 0, 1) := by decide +kernel
theorem dX7_readCondition_100 : decode cX7_readCondition 100 = .ok (.bipush (-38), 2) := by decide +kernel
theorem dX7_readCondition_102 : decode cX7_readCondition 102 = .ok (.invokevirtual 71, 3) := by decide +kernel
theorem dX7_readCondition_105 : decode cX7_readCondition 105 = .ok (.iinc 5 1, 3) := by decide +kernel
theorem dX7_readCondition_108 : decode cX7_readCondition 108 = .ok (.goto (-90), 3) := by decide +kernel
theorem dX7_readCondition_111 : decode cX7_readCondition 111 = .ok (.iload 4, 2) := by decide +kernel
theorem dX7_readCondition_113 : decode cX7_readCondition 113 = .ok (.ifCond .eq 9, 3) := by decide +kernel
theorem dX7_readCondition_116 : decode cX7_readCondition 116 = .ok (.aload_n 0, 1) := by decide +kernel
theorem dX7_readCondition_117 : decode cX7_readCondition 117 = .ok (.bipush (-124), 2) := by decide +kernel
theorem dX7_readCondition_119 : decode cX7_readCondition 119 = .ok (.invokevirtual 71, 3) := by decide +kernel
theorem dX7_readCondition_122 : decode cX7_readCondition 122 = .ok (.iconst 1, 1) := by decide +kernel
theorem dX7_readCondition_123 : decode cX7_readCondition 123 = .ok (.ireturn, 1) := by decide +kernel
def x_Rules_readOpened_40 (c_x_Rules_readOpened : Int → Int → aw_W → Option (Int × aw_W)) (c_x_Rules_readUnit : Int → Int → aw_W → Option (Int × aw_W)) (c_x_Rules_readCondition : Int → Int → aw_W → Option (Int × aw_W)) (N : Nat) (s0 : Int) (w : aw_W) : Option (Int × aw_W) :=
  if s0 = 0 ∨ s0 = 1 then
    some (s0, w)
  else none
theorem w_x_Rules_readOpened_40 {l : Launch} {K : aw_K} (N d : Nat) (hd : 61 ≤ d) (c_x_Rules_readOpened : Int → Int → aw_W → Option (Int × aw_W)) (c_x_Rules_readUnit : Int → Int → aw_W → Option (Int × aw_W)) (c_x_Rules_readCondition : Int → Int → aw_W → Option (Int × aw_W)) (hc_x_Rules_readOpened : ∀ (x2 x3 : Int) (w : aw_W) (y : Int) (v : aw_W), c_x_Rules_readOpened x2 x3 w = some (y, v) → aw_Met l K MX7_readOpened (d) [.inr (.inr 11), .inr (.inr 1), .inl x2, .inl x3] w (some (.inl y), v)) (hc_x_Rules_readUnit : ∀ (x2 x3 : Int) (w : aw_W) (y : Int) (v : aw_W), c_x_Rules_readUnit x2 x3 w = some (y, v) → aw_Met l K MX7_readUnit (d) [.inr (.inr 11), .inr (.inr 1), .inl x2, .inl x3] w (some (.inl y), v)) (hc_x_Rules_readCondition : ∀ (x2 x3 : Int) (w : aw_W) (y : Int) (v : aw_W), c_x_Rules_readCondition x2 x3 w = some (y, v) → aw_Met l K MX7_readCondition (d) [.inr (.inr 11), .inr (.inr 1), .inl x2, .inl x3] w (some (.inl y), v)) : ∀ (s0 : Int) (w : aw_W) (y : Int) (v : aw_W), x_Rules_readOpened_40 c_x_Rules_readOpened c_x_Rules_readUnit c_x_Rules_readCondition N s0 w = some (y, v) → aw_AW l K MX7_readOpened (d + 1) 40 [] [.inl s0] w (some (.inl y), v) := by
  intro s0 w y v h
  unfold x_Rules_readOpened_40 at h
  obtain ⟨hz, h⟩ := aw_cks h
  cases h
  exact aw_zret (pc := 40) rfl hz dX7_readOpened_40
def x_Rules_readOpened_39 (c_x_Rules_readOpened : Int → Int → aw_W → Option (Int × aw_W)) (c_x_Rules_readUnit : Int → Int → aw_W → Option (Int × aw_W)) (c_x_Rules_readCondition : Int → Int → aw_W → Option (Int × aw_W)) (N : Nat) (w : aw_W) : Option (Int × aw_W) :=
  x_Rules_readOpened_40 c_x_Rules_readOpened c_x_Rules_readUnit c_x_Rules_readCondition N 0 w
theorem w_x_Rules_readOpened_39 {l : Launch} {K : aw_K} (N d : Nat) (hd : 61 ≤ d) (c_x_Rules_readOpened : Int → Int → aw_W → Option (Int × aw_W)) (c_x_Rules_readUnit : Int → Int → aw_W → Option (Int × aw_W)) (c_x_Rules_readCondition : Int → Int → aw_W → Option (Int × aw_W)) (hc_x_Rules_readOpened : ∀ (x2 x3 : Int) (w : aw_W) (y : Int) (v : aw_W), c_x_Rules_readOpened x2 x3 w = some (y, v) → aw_Met l K MX7_readOpened (d) [.inr (.inr 11), .inr (.inr 1), .inl x2, .inl x3] w (some (.inl y), v)) (hc_x_Rules_readUnit : ∀ (x2 x3 : Int) (w : aw_W) (y : Int) (v : aw_W), c_x_Rules_readUnit x2 x3 w = some (y, v) → aw_Met l K MX7_readUnit (d) [.inr (.inr 11), .inr (.inr 1), .inl x2, .inl x3] w (some (.inl y), v)) (hc_x_Rules_readCondition : ∀ (x2 x3 : Int) (w : aw_W) (y : Int) (v : aw_W), c_x_Rules_readCondition x2 x3 w = some (y, v) → aw_Met l K MX7_readCondition (d) [.inr (.inr 11), .inr (.inr 1), .inl x2, .inl x3] w (some (.inl y), v)) : ∀ (w : aw_W) (y : Int) (v : aw_W), x_Rules_readOpened_39 c_x_Rules_readOpened c_x_Rules_readUnit c_x_Rules_readCondition N w = some (y, v) → aw_AW l K MX7_readOpened (d + 1) 39 [] [] w (some (.inl y), v) := by
  intro w y v h
  unfold x_Rules_readOpened_39 at h
  refine aw_iconst (pc := 39) dX7_readOpened_39 ⟨by decide, by decide⟩ ?_
  exact aw_sel [] rfl (w_x_Rules_readOpened_40 N d hd c_x_Rules_readOpened c_x_Rules_readUnit c_x_Rules_readCondition hc_x_Rules_readOpened hc_x_Rules_readUnit hc_x_Rules_readCondition  _ _ _ _ h)
def x_Rules_readOpened_b (c_x_Rules_readOpened : Int → Int → aw_W → Option (Int × aw_W)) (c_x_Rules_readUnit : Int → Int → aw_W → Option (Int × aw_W)) (c_x_Rules_readCondition : Int → Int → aw_W → Option (Int × aw_W)) (N : Nat) (x2 x3 : Int) (w : aw_W) : Option (Int × aw_W) :=
  if x3 = 40 then
    aw_b2 (c_x_Rules_readCondition x2 0 (aw_up w 1 2 (aw_w ((w 1 2) + 1)))) fun r3 w3 =>
      if r3 = 0 then
        x_Rules_readOpened_39 c_x_Rules_readOpened c_x_Rules_readUnit c_x_Rules_readCondition N w3
      else
        aw_b2 (x_Tape_take N 41 w3) fun r4 w4 =>
          if r4 = 0 then
            x_Rules_readOpened_39 c_x_Rules_readOpened c_x_Rules_readUnit c_x_Rules_readCondition N w4
          else
            x_Rules_readOpened_40 c_x_Rules_readOpened c_x_Rules_readUnit c_x_Rules_readCondition N 1 w4
  else
    aw_b2 (c_x_Rules_readUnit x2 0 (aw_up w 1 2 (aw_w ((w 1 2) + 1)))) fun r1 w1 =>
      if r1 = 0 then
        some (0, w1)
      else
        aw_b1 (x_Rules_put N (-33) w1) fun w2 =>
          some (1, w2)
theorem w_x_Rules_readOpened_b {l : Launch} {K : aw_K} (N d : Nat) (hd : 61 ≤ d) (c_x_Rules_readOpened : Int → Int → aw_W → Option (Int × aw_W)) (c_x_Rules_readUnit : Int → Int → aw_W → Option (Int × aw_W)) (c_x_Rules_readCondition : Int → Int → aw_W → Option (Int × aw_W)) (hc_x_Rules_readOpened : ∀ (x2 x3 : Int) (w : aw_W) (y : Int) (v : aw_W), c_x_Rules_readOpened x2 x3 w = some (y, v) → aw_Met l K MX7_readOpened (d) [.inr (.inr 11), .inr (.inr 1), .inl x2, .inl x3] w (some (.inl y), v)) (hc_x_Rules_readUnit : ∀ (x2 x3 : Int) (w : aw_W) (y : Int) (v : aw_W), c_x_Rules_readUnit x2 x3 w = some (y, v) → aw_Met l K MX7_readUnit (d) [.inr (.inr 11), .inr (.inr 1), .inl x2, .inl x3] w (some (.inl y), v)) (hc_x_Rules_readCondition : ∀ (x2 x3 : Int) (w : aw_W) (y : Int) (v : aw_W), c_x_Rules_readCondition x2 x3 w = some (y, v) → aw_Met l K MX7_readCondition (d) [.inr (.inr 11), .inr (.inr 1), .inl x2, .inl x3] w (some (.inl y), v)) : ∀ (x2 x3 : Int) (w : aw_W) (y : Int) (v : aw_W), x_Rules_readOpened_b c_x_Rules_readOpened c_x_Rules_readUnit c_x_Rules_readCondition N x2 x3 w = some (y, v) → aw_Met l K MX7_readOpened (d + 1) [.inr (.inr 11), .inr (.inr 1), .inl x2, .inl x3] w (some (.inl y), v) := by
  intro x2 x3 w y v h
  unfold x_Rules_readOpened_b at h
  refine aw_enter rfl (Nat.le_of_ble_eq_true rfl) ?_
  show aw_AW l K MX7_readOpened (d + 1) 0 [(0, .inr (.inr 11)), (1, .inr (.inr 1)), (2, .inl x2), (3, .inl x3)] [] w (some (.inl y), v)
  refine aw_aload_n (pc := 0) (q := 1) dX7_readOpened_0 rfl ?_
  refine aw_dup (pc := 1) dX7_readOpened_1 rfl ?_
  refine aw_getf (pc := 2) (v := .inl (w 1 2)) dX7_readOpened_2 fl_RX7_43 (by decide) rfl rfl rfl ?_
  refine aw_iconst (pc := 5) dX7_readOpened_5 ⟨by decide, by decide⟩ ?_
  refine aw_iadd (pc := 6) dX7_readOpened_6 ?_
  refine aw_puti (pc := 7) dX7_readOpened_7 fp_RX7_43 (by decide) rfl rfl ?_
  refine aw_iload_n (pc := 10) (q := 3) dX7_readOpened_10 rfl ?_
  refine aw_bipush (pc := 11) dX7_readOpened_11 (by decide) ⟨by decide, by decide⟩ ?_
  refine aw_icmp_ne (pc := 13) (tgt := 41) dX7_readOpened_13 (by decide) (fun hc => ?_) (fun hc => ?_)
  · rw [if_neg hc] at h
    refine aw_aload_n (pc := 41) (q := 0) dX7_readOpened_41 rfl ?_
    refine aw_aload_n (pc := 42) (q := 1) dX7_readOpened_42 rfl ?_
    refine aw_iload_n (pc := 43) (q := 2) dX7_readOpened_43 rfl ?_
    refine aw_iconst (pc := 44) dX7_readOpened_44 ⟨by decide, by decide⟩ ?_
    obtain ⟨r1, w1, h1, h⟩ := aw_b2s h
    refine aw_callV (pc := 45) (as := [.inr (.inr 1), .inl x2, .inl 0]) (st := []) (st' := [.inl r1]) dX7_readOpened_45 cv_RX7_75 (by decide) rfl rfl rfl rfl (Nat.le_of_ble_eq_true rfl) (hc_x_Rules_readUnit _ _ _ _ _ h1) rfl ?_
    refine aw_if_ne (pc := 48) (tgt := 53) dX7_readOpened_48 (by decide) (fun hc => ?_) (fun hc => ?_)
    · rw [if_neg hc] at h
      refine aw_aload_n (pc := 53) (q := 0) dX7_readOpened_53 rfl ?_
      refine aw_bipush (pc := 54) dX7_readOpened_54 (by decide) ⟨by decide, by decide⟩ ?_
      obtain ⟨w2, h2, h⟩ := aw_b1s h
      refine aw_callV (pc := 56) (as := [.inl (-33)]) (st := []) (st' := []) dX7_readOpened_56 cv_RX7_71 (by decide) rfl rfl rfl rfl (Nat.le_of_ble_eq_true rfl) (w_x_Rules_put N d (by omega) _ _ _ h2) rfl ?_
      refine aw_iconst (pc := 59) dX7_readOpened_59 ⟨by decide, by decide⟩ ?_
      cases h
      exact aw_zret (pc := 60) rfl (by decide) dX7_readOpened_60
    · rw [if_pos hc] at h
      refine aw_iconst (pc := 51) dX7_readOpened_51 ⟨by decide, by decide⟩ ?_
      cases h
      exact aw_zret (pc := 52) rfl (by decide) dX7_readOpened_52
  · rw [if_pos hc] at h
    refine aw_aload_n (pc := 16) (q := 0) dX7_readOpened_16 rfl ?_
    refine aw_aload_n (pc := 17) (q := 1) dX7_readOpened_17 rfl ?_
    refine aw_iload_n (pc := 18) (q := 2) dX7_readOpened_18 rfl ?_
    refine aw_iconst (pc := 19) dX7_readOpened_19 ⟨by decide, by decide⟩ ?_
    obtain ⟨r3, w3, h3, h⟩ := aw_b2s h
    refine aw_callV (pc := 20) (as := [.inr (.inr 1), .inl x2, .inl 0]) (st := []) (st' := [.inl r3]) dX7_readOpened_20 cv_RX7_67 (by decide) rfl rfl rfl rfl (Nat.le_of_ble_eq_true rfl) (hc_x_Rules_readCondition _ _ _ _ _ h3) rfl ?_
    refine aw_if_eq (pc := 23) (tgt := 39) dX7_readOpened_23 (by decide) (fun hc => ?_) (fun hc => ?_)
    · rw [if_pos hc] at h
      exact aw_sel [] rfl (w_x_Rules_readOpened_39 N d hd c_x_Rules_readOpened c_x_Rules_readUnit c_x_Rules_readCondition hc_x_Rules_readOpened hc_x_Rules_readUnit hc_x_Rules_readCondition  _ _ _ h)
    · rw [if_neg hc] at h
      refine aw_aload_n (pc := 26) (q := 1) dX7_readOpened_26 rfl ?_
      refine aw_bipush (pc := 27) dX7_readOpened_27 (by decide) ⟨by decide, by decide⟩ ?_
      obtain ⟨r4, w4, h4, h⟩ := aw_b2s h
      refine aw_callV (pc := 29) (as := [.inl 41]) (st := []) (st' := [.inl r4]) dX7_readOpened_29 cv_RX7_52 (by decide) rfl rfl rfl rfl (Nat.le_of_ble_eq_true rfl) (w_x_Tape_take N d (by omega) _ _ _ _ h4) rfl ?_
      refine aw_if_eq (pc := 32) (tgt := 39) dX7_readOpened_32 (by decide) (fun hc => ?_) (fun hc => ?_)
      · rw [if_pos hc] at h
        exact aw_sel [] rfl (w_x_Rules_readOpened_39 N d hd c_x_Rules_readOpened c_x_Rules_readUnit c_x_Rules_readCondition hc_x_Rules_readOpened hc_x_Rules_readUnit hc_x_Rules_readCondition  _ _ _ h)
      · rw [if_neg hc] at h
        refine aw_iconst (pc := 35) dX7_readOpened_35 ⟨by decide, by decide⟩ ?_
        refine aw_goto (pc := 36) (tgt := 40) dX7_readOpened_36 (by decide) ?_
        exact aw_sel [] rfl (w_x_Rules_readOpened_40 N d hd c_x_Rules_readOpened c_x_Rules_readUnit c_x_Rules_readCondition hc_x_Rules_readOpened hc_x_Rules_readUnit hc_x_Rules_readCondition  _ _ _ _ h)
def x_Rules_readUnit_60 (c_x_Rules_readOpened : Int → Int → aw_W → Option (Int × aw_W)) (c_x_Rules_readUnit : Int → Int → aw_W → Option (Int × aw_W)) (c_x_Rules_readCondition : Int → Int → aw_W → Option (Int × aw_W)) (N : Nat) (x2 : Int) (w : aw_W) : Option (Int × aw_W) :=
  aw_b2 (x_Tape_sign N w) fun r1 w1 =>
    aw_b2 (x_Rules_isComparison N r1 w1) fun r2 w2 =>
      if r2 = 0 then
        some (0, w2)
      else
        aw_b2 (x_Rules_readSum N x2 (aw_up w2 1 2 (aw_w ((w2 1 2) + 1)))) fun r3 w3 =>
          if r3 = 0 then
            some (0, w3)
          else
            aw_b1 (x_Rules_put N (aw_w (-r1)) w3) fun w4 =>
              some (1, w4)
theorem w_x_Rules_readUnit_60 {l : Launch} {K : aw_K} (N d : Nat) (hd : 61 ≤ d) (c_x_Rules_readOpened : Int → Int → aw_W → Option (Int × aw_W)) (c_x_Rules_readUnit : Int → Int → aw_W → Option (Int × aw_W)) (c_x_Rules_readCondition : Int → Int → aw_W → Option (Int × aw_W)) (hc_x_Rules_readOpened : ∀ (x2 x3 : Int) (w : aw_W) (y : Int) (v : aw_W), c_x_Rules_readOpened x2 x3 w = some (y, v) → aw_Met l K MX7_readOpened (d) [.inr (.inr 11), .inr (.inr 1), .inl x2, .inl x3] w (some (.inl y), v)) (hc_x_Rules_readUnit : ∀ (x2 x3 : Int) (w : aw_W) (y : Int) (v : aw_W), c_x_Rules_readUnit x2 x3 w = some (y, v) → aw_Met l K MX7_readUnit (d) [.inr (.inr 11), .inr (.inr 1), .inl x2, .inl x3] w (some (.inl y), v)) (hc_x_Rules_readCondition : ∀ (x2 x3 : Int) (w : aw_W) (y : Int) (v : aw_W), c_x_Rules_readCondition x2 x3 w = some (y, v) → aw_Met l K MX7_readCondition (d) [.inr (.inr 11), .inr (.inr 1), .inl x2, .inl x3] w (some (.inl y), v)) : ∀ (x2 : Int) (w : aw_W) (y : Int) (v : aw_W), x_Rules_readUnit_60 c_x_Rules_readOpened c_x_Rules_readUnit c_x_Rules_readCondition N x2 w = some (y, v) → aw_AW l K MX7_readUnit (d + 1) 60 [(0, .inr (.inr 11)), (1, .inr (.inr 1)), (2, .inl x2)] [] w (some (.inl y), v) := by
  intro x2 w y v h
  unfold x_Rules_readUnit_60 at h
  refine aw_aload_n (pc := 60) (q := 1) dX7_readUnit_60 rfl ?_
  obtain ⟨r1, w1, h1, h⟩ := aw_b2s h
  refine aw_callV (pc := 61) (as := []) (st := []) (st' := [.inl r1]) dX7_readUnit_61 cv_RX7_56 (by decide) rfl rfl rfl rfl (Nat.le_of_ble_eq_true rfl) (w_x_Tape_sign N d (by omega) _ _ _ h1) rfl ?_
  refine aw_istore (pc := 64) (ls' := [(4, .inl r1), (0, .inr (.inr 11)), (1, .inr (.inr 1)), (2, .inl x2)]) dX7_readUnit_64 (by decide) rfl ?_
  refine aw_iload (pc := 66) (q := 0) dX7_readUnit_66 rfl ?_
  obtain ⟨r2, w2, h2, h⟩ := aw_b2s h
  refine aw_callS (pc := 68) (as := [.inl r1]) (st := []) (st' := [.inl r2]) dX7_readUnit_68 cs_RX7_64 rfl rfl (Nat.le_of_ble_eq_true rfl) (w_x_Rules_isComparison N d (by omega) _ _ _ _ h2) rfl ?_
  refine aw_if_ne (pc := 71) (tgt := 76) dX7_readUnit_71 (by decide) (fun hc => ?_) (fun hc => ?_)
  · rw [if_neg hc] at h
    refine aw_aload_n (pc := 76) (q := 2) dX7_readUnit_76 rfl ?_
    refine aw_dup (pc := 77) dX7_readUnit_77 rfl ?_
    refine aw_getf (pc := 78) (v := .inl (w2 1 2)) dX7_readUnit_78 fl_RX7_43 (by decide) rfl rfl rfl ?_
    refine aw_iconst (pc := 81) dX7_readUnit_81 ⟨by decide, by decide⟩ ?_
    refine aw_iadd (pc := 82) dX7_readUnit_82 ?_
    refine aw_puti (pc := 83) dX7_readUnit_83 fp_RX7_43 (by decide) rfl rfl ?_
    refine aw_aload_n (pc := 86) (q := 1) dX7_readUnit_86 rfl ?_
    refine aw_aload_n (pc := 87) (q := 2) dX7_readUnit_87 rfl ?_
    refine aw_iload_n (pc := 88) (q := 3) dX7_readUnit_88 rfl ?_
    obtain ⟨r3, w3, h3, h⟩ := aw_b2s h
    refine aw_callV (pc := 89) (as := [.inr (.inr 1), .inl x2]) (st := []) (st' := [.inl r3]) dX7_readUnit_89 cv_RX7_60 (by decide) rfl rfl rfl rfl (Nat.le_of_ble_eq_true rfl) (w_x_Rules_readSum N d (by omega) _ _ _ _ h3) rfl ?_
    refine aw_if_ne (pc := 92) (tgt := 97) dX7_readUnit_92 (by decide) (fun hc => ?_) (fun hc => ?_)
    · rw [if_neg hc] at h
      refine aw_aload_n (pc := 97) (q := 1) dX7_readUnit_97 rfl ?_
      refine aw_iload (pc := 98) (q := 0) dX7_readUnit_98 rfl ?_
      refine aw_ineg (pc := 100) dX7_readUnit_100 ?_
      obtain ⟨w4, h4, h⟩ := aw_b1s h
      refine aw_callV (pc := 101) (as := [.inl (aw_w (-r1))]) (st := []) (st' := []) dX7_readUnit_101 cv_RX7_71 (by decide) rfl rfl rfl rfl (Nat.le_of_ble_eq_true rfl) (w_x_Rules_put N d (by omega) _ _ _ h4) rfl ?_
      refine aw_iconst (pc := 104) dX7_readUnit_104 ⟨by decide, by decide⟩ ?_
      cases h
      exact aw_zret (pc := 105) rfl (by decide) dX7_readUnit_105
    · rw [if_pos hc] at h
      refine aw_iconst (pc := 95) dX7_readUnit_95 ⟨by decide, by decide⟩ ?_
      cases h
      exact aw_zret (pc := 96) rfl (by decide) dX7_readUnit_96
  · rw [if_pos hc] at h
    refine aw_iconst (pc := 74) dX7_readUnit_74 ⟨by decide, by decide⟩ ?_
    cases h
    exact aw_zret (pc := 75) rfl (by decide) dX7_readUnit_75
def x_Rules_readUnit_48 (c_x_Rules_readOpened : Int → Int → aw_W → Option (Int × aw_W)) (c_x_Rules_readUnit : Int → Int → aw_W → Option (Int × aw_W)) (c_x_Rules_readCondition : Int → Int → aw_W → Option (Int × aw_W)) (N : Nat) (s0 : Int) (w : aw_W) : Option (Int × aw_W) :=
  if s0 = 0 ∨ s0 = 1 then
    some (s0, w)
  else none
theorem w_x_Rules_readUnit_48 {l : Launch} {K : aw_K} (N d : Nat) (hd : 61 ≤ d) (c_x_Rules_readOpened : Int → Int → aw_W → Option (Int × aw_W)) (c_x_Rules_readUnit : Int → Int → aw_W → Option (Int × aw_W)) (c_x_Rules_readCondition : Int → Int → aw_W → Option (Int × aw_W)) (hc_x_Rules_readOpened : ∀ (x2 x3 : Int) (w : aw_W) (y : Int) (v : aw_W), c_x_Rules_readOpened x2 x3 w = some (y, v) → aw_Met l K MX7_readOpened (d) [.inr (.inr 11), .inr (.inr 1), .inl x2, .inl x3] w (some (.inl y), v)) (hc_x_Rules_readUnit : ∀ (x2 x3 : Int) (w : aw_W) (y : Int) (v : aw_W), c_x_Rules_readUnit x2 x3 w = some (y, v) → aw_Met l K MX7_readUnit (d) [.inr (.inr 11), .inr (.inr 1), .inl x2, .inl x3] w (some (.inl y), v)) (hc_x_Rules_readCondition : ∀ (x2 x3 : Int) (w : aw_W) (y : Int) (v : aw_W), c_x_Rules_readCondition x2 x3 w = some (y, v) → aw_Met l K MX7_readCondition (d) [.inr (.inr 11), .inr (.inr 1), .inl x2, .inl x3] w (some (.inl y), v)) : ∀ (s0 : Int) (w : aw_W) (y : Int) (v : aw_W), x_Rules_readUnit_48 c_x_Rules_readOpened c_x_Rules_readUnit c_x_Rules_readCondition N s0 w = some (y, v) → aw_AW l K MX7_readUnit (d + 1) 48 [] [.inl s0] w (some (.inl y), v) := by
  intro s0 w y v h
  unfold x_Rules_readUnit_48 at h
  obtain ⟨hz, h⟩ := aw_cks h
  cases h
  exact aw_zret (pc := 48) rfl hz dX7_readUnit_48
def x_Rules_readUnit_47 (c_x_Rules_readOpened : Int → Int → aw_W → Option (Int × aw_W)) (c_x_Rules_readUnit : Int → Int → aw_W → Option (Int × aw_W)) (c_x_Rules_readCondition : Int → Int → aw_W → Option (Int × aw_W)) (N : Nat) (w : aw_W) : Option (Int × aw_W) :=
  x_Rules_readUnit_48 c_x_Rules_readOpened c_x_Rules_readUnit c_x_Rules_readCondition N 0 w
theorem w_x_Rules_readUnit_47 {l : Launch} {K : aw_K} (N d : Nat) (hd : 61 ≤ d) (c_x_Rules_readOpened : Int → Int → aw_W → Option (Int × aw_W)) (c_x_Rules_readUnit : Int → Int → aw_W → Option (Int × aw_W)) (c_x_Rules_readCondition : Int → Int → aw_W → Option (Int × aw_W)) (hc_x_Rules_readOpened : ∀ (x2 x3 : Int) (w : aw_W) (y : Int) (v : aw_W), c_x_Rules_readOpened x2 x3 w = some (y, v) → aw_Met l K MX7_readOpened (d) [.inr (.inr 11), .inr (.inr 1), .inl x2, .inl x3] w (some (.inl y), v)) (hc_x_Rules_readUnit : ∀ (x2 x3 : Int) (w : aw_W) (y : Int) (v : aw_W), c_x_Rules_readUnit x2 x3 w = some (y, v) → aw_Met l K MX7_readUnit (d) [.inr (.inr 11), .inr (.inr 1), .inl x2, .inl x3] w (some (.inl y), v)) (hc_x_Rules_readCondition : ∀ (x2 x3 : Int) (w : aw_W) (y : Int) (v : aw_W), c_x_Rules_readCondition x2 x3 w = some (y, v) → aw_Met l K MX7_readCondition (d) [.inr (.inr 11), .inr (.inr 1), .inl x2, .inl x3] w (some (.inl y), v)) : ∀ (w : aw_W) (y : Int) (v : aw_W), x_Rules_readUnit_47 c_x_Rules_readOpened c_x_Rules_readUnit c_x_Rules_readCondition N w = some (y, v) → aw_AW l K MX7_readUnit (d + 1) 47 [] [] w (some (.inl y), v) := by
  intro w y v h
  unfold x_Rules_readUnit_47 at h
  refine aw_iconst (pc := 47) dX7_readUnit_47 ⟨by decide, by decide⟩ ?_
  exact aw_sel [] rfl (w_x_Rules_readUnit_48 N d hd c_x_Rules_readOpened c_x_Rules_readUnit c_x_Rules_readCondition hc_x_Rules_readOpened hc_x_Rules_readUnit hc_x_Rules_readCondition  _ _ _ _ h)
def x_Rules_readUnit_24 (c_x_Rules_readOpened : Int → Int → aw_W → Option (Int × aw_W)) (c_x_Rules_readUnit : Int → Int → aw_W → Option (Int × aw_W)) (c_x_Rules_readCondition : Int → Int → aw_W → Option (Int × aw_W)) (N : Nat) (x2 x4 : Int) (w : aw_W) : Option (Int × aw_W) :=
  if 6 ≤ x2 then
    x_Rules_readUnit_47 c_x_Rules_readOpened c_x_Rules_readUnit c_x_Rules_readCondition N w
  else
    aw_b2 (c_x_Rules_readOpened (aw_w (x2 + 1)) x4 w) fun r1 w1 =>
      if r1 = 0 then
        x_Rules_readUnit_47 c_x_Rules_readOpened c_x_Rules_readUnit c_x_Rules_readCondition N w1
      else
        x_Rules_readUnit_48 c_x_Rules_readOpened c_x_Rules_readUnit c_x_Rules_readCondition N 1 w1
theorem w_x_Rules_readUnit_24 {l : Launch} {K : aw_K} (N d : Nat) (hd : 61 ≤ d) (c_x_Rules_readOpened : Int → Int → aw_W → Option (Int × aw_W)) (c_x_Rules_readUnit : Int → Int → aw_W → Option (Int × aw_W)) (c_x_Rules_readCondition : Int → Int → aw_W → Option (Int × aw_W)) (hc_x_Rules_readOpened : ∀ (x2 x3 : Int) (w : aw_W) (y : Int) (v : aw_W), c_x_Rules_readOpened x2 x3 w = some (y, v) → aw_Met l K MX7_readOpened (d) [.inr (.inr 11), .inr (.inr 1), .inl x2, .inl x3] w (some (.inl y), v)) (hc_x_Rules_readUnit : ∀ (x2 x3 : Int) (w : aw_W) (y : Int) (v : aw_W), c_x_Rules_readUnit x2 x3 w = some (y, v) → aw_Met l K MX7_readUnit (d) [.inr (.inr 11), .inr (.inr 1), .inl x2, .inl x3] w (some (.inl y), v)) (hc_x_Rules_readCondition : ∀ (x2 x3 : Int) (w : aw_W) (y : Int) (v : aw_W), c_x_Rules_readCondition x2 x3 w = some (y, v) → aw_Met l K MX7_readCondition (d) [.inr (.inr 11), .inr (.inr 1), .inl x2, .inl x3] w (some (.inl y), v)) : ∀ (x2 x4 : Int) (w : aw_W) (y : Int) (v : aw_W), x_Rules_readUnit_24 c_x_Rules_readOpened c_x_Rules_readUnit c_x_Rules_readCondition N x2 x4 w = some (y, v) → aw_AW l K MX7_readUnit (d + 1) 24 [(0, .inr (.inr 11)), (1, .inr (.inr 1)), (2, .inl x2), (4, .inl x4)] [] w (some (.inl y), v) := by
  intro x2 x4 w y v h
  unfold x_Rules_readUnit_24 at h
  refine aw_iload_n (pc := 24) (q := 2) dX7_readUnit_24 rfl ?_
  refine aw_bipush (pc := 25) dX7_readUnit_25 (by decide) ⟨by decide, by decide⟩ ?_
  refine aw_icmp_ge (pc := 27) (tgt := 47) dX7_readUnit_27 (by decide) (fun hc => ?_) (fun hc => ?_)
  · rw [if_pos hc] at h
    exact aw_sel [] rfl (w_x_Rules_readUnit_47 N d hd c_x_Rules_readOpened c_x_Rules_readUnit c_x_Rules_readCondition hc_x_Rules_readOpened hc_x_Rules_readUnit hc_x_Rules_readCondition  _ _ _ h)
  · rw [if_neg hc] at h
    refine aw_aload_n (pc := 30) (q := 0) dX7_readUnit_30 rfl ?_
    refine aw_aload_n (pc := 31) (q := 1) dX7_readUnit_31 rfl ?_
    refine aw_iload_n (pc := 32) (q := 2) dX7_readUnit_32 rfl ?_
    refine aw_iconst (pc := 33) dX7_readUnit_33 ⟨by decide, by decide⟩ ?_
    refine aw_iadd (pc := 34) dX7_readUnit_34 ?_
    refine aw_iload (pc := 35) (q := 3) dX7_readUnit_35 rfl ?_
    obtain ⟨r1, w1, h1, h⟩ := aw_b2s h
    refine aw_callV (pc := 37) (as := [.inr (.inr 1), .inl (aw_w (x2 + 1)), .inl x4]) (st := []) (st' := [.inl r1]) dX7_readUnit_37 cv_RX7_78 (by decide) rfl rfl rfl rfl (Nat.le_of_ble_eq_true rfl) (hc_x_Rules_readOpened _ _ _ _ _ h1) rfl ?_
    refine aw_if_eq (pc := 40) (tgt := 47) dX7_readUnit_40 (by decide) (fun hc => ?_) (fun hc => ?_)
    · rw [if_pos hc] at h
      exact aw_sel [] rfl (w_x_Rules_readUnit_47 N d hd c_x_Rules_readOpened c_x_Rules_readUnit c_x_Rules_readCondition hc_x_Rules_readOpened hc_x_Rules_readUnit hc_x_Rules_readCondition  _ _ _ h)
    · rw [if_neg hc] at h
      refine aw_iconst (pc := 43) dX7_readUnit_43 ⟨by decide, by decide⟩ ?_
      refine aw_goto (pc := 44) (tgt := 48) dX7_readUnit_44 (by decide) ?_
      exact aw_sel [] rfl (w_x_Rules_readUnit_48 N d hd c_x_Rules_readOpened c_x_Rules_readUnit c_x_Rules_readCondition hc_x_Rules_readOpened hc_x_Rules_readUnit hc_x_Rules_readCondition  _ _ _ _ h)
def x_Rules_readUnit_b (c_x_Rules_readOpened : Int → Int → aw_W → Option (Int × aw_W)) (c_x_Rules_readUnit : Int → Int → aw_W → Option (Int × aw_W)) (c_x_Rules_readCondition : Int → Int → aw_W → Option (Int × aw_W)) (N : Nat) (x2 x3 : Int) (w : aw_W) : Option (Int × aw_W) :=
  if x3 = 0 then
    aw_b2 (x_Tape_sign N w) fun r1 w1 =>
      if r1 = 33 then
        x_Rules_readUnit_24 c_x_Rules_readOpened c_x_Rules_readUnit c_x_Rules_readCondition N x2 r1 w1
      else
        if r1 = 40 then
          x_Rules_readUnit_24 c_x_Rules_readOpened c_x_Rules_readUnit c_x_Rules_readCondition N x2 r1 w1
        else
          aw_b2 (x_Rules_readSum N x2 w1) fun r2 w2 =>
            if r2 = 0 then
              some (0, w2)
            else
              x_Rules_readUnit_60 c_x_Rules_readOpened c_x_Rules_readUnit c_x_Rules_readCondition N x2 w2
  else
    x_Rules_readUnit_60 c_x_Rules_readOpened c_x_Rules_readUnit c_x_Rules_readCondition N x2 w
theorem w_x_Rules_readUnit_b {l : Launch} {K : aw_K} (N d : Nat) (hd : 61 ≤ d) (c_x_Rules_readOpened : Int → Int → aw_W → Option (Int × aw_W)) (c_x_Rules_readUnit : Int → Int → aw_W → Option (Int × aw_W)) (c_x_Rules_readCondition : Int → Int → aw_W → Option (Int × aw_W)) (hc_x_Rules_readOpened : ∀ (x2 x3 : Int) (w : aw_W) (y : Int) (v : aw_W), c_x_Rules_readOpened x2 x3 w = some (y, v) → aw_Met l K MX7_readOpened (d) [.inr (.inr 11), .inr (.inr 1), .inl x2, .inl x3] w (some (.inl y), v)) (hc_x_Rules_readUnit : ∀ (x2 x3 : Int) (w : aw_W) (y : Int) (v : aw_W), c_x_Rules_readUnit x2 x3 w = some (y, v) → aw_Met l K MX7_readUnit (d) [.inr (.inr 11), .inr (.inr 1), .inl x2, .inl x3] w (some (.inl y), v)) (hc_x_Rules_readCondition : ∀ (x2 x3 : Int) (w : aw_W) (y : Int) (v : aw_W), c_x_Rules_readCondition x2 x3 w = some (y, v) → aw_Met l K MX7_readCondition (d) [.inr (.inr 11), .inr (.inr 1), .inl x2, .inl x3] w (some (.inl y), v)) : ∀ (x2 x3 : Int) (w : aw_W) (y : Int) (v : aw_W), x_Rules_readUnit_b c_x_Rules_readOpened c_x_Rules_readUnit c_x_Rules_readCondition N x2 x3 w = some (y, v) → aw_Met l K MX7_readUnit (d + 1) [.inr (.inr 11), .inr (.inr 1), .inl x2, .inl x3] w (some (.inl y), v) := by
  intro x2 x3 w y v h
  unfold x_Rules_readUnit_b at h
  refine aw_enter rfl (Nat.le_of_ble_eq_true rfl) ?_
  show aw_AW l K MX7_readUnit (d + 1) 0 [(0, .inr (.inr 11)), (1, .inr (.inr 1)), (2, .inl x2), (3, .inl x3)] [] w (some (.inl y), v)
  refine aw_iload_n (pc := 0) (q := 3) dX7_readUnit_0 rfl ?_
  refine aw_if_ne (pc := 1) (tgt := 60) dX7_readUnit_1 (by decide) (fun hc => ?_) (fun hc => ?_)
  · rw [if_neg hc] at h
    exact aw_sel [0, 1, 2] rfl (w_x_Rules_readUnit_60 N d hd c_x_Rules_readOpened c_x_Rules_readUnit c_x_Rules_readCondition hc_x_Rules_readOpened hc_x_Rules_readUnit hc_x_Rules_readCondition  _ _ _ _ h)
  · rw [if_pos hc] at h
    refine aw_aload_n (pc := 4) (q := 1) dX7_readUnit_4 rfl ?_
    obtain ⟨r1, w1, h1, h⟩ := aw_b2s h
    refine aw_callV (pc := 5) (as := []) (st := []) (st' := [.inl r1]) dX7_readUnit_5 cv_RX7_56 (by decide) rfl rfl rfl rfl (Nat.le_of_ble_eq_true rfl) (w_x_Tape_sign N d (by omega) _ _ _ h1) rfl ?_
    refine aw_istore (pc := 8) (ls' := [(4, .inl r1), (0, .inr (.inr 11)), (1, .inr (.inr 1)), (2, .inl x2), (3, .inl x3)]) dX7_readUnit_8 (by decide) rfl ?_
    refine aw_iload (pc := 10) (q := 0) dX7_readUnit_10 rfl ?_
    refine aw_bipush (pc := 12) dX7_readUnit_12 (by decide) ⟨by decide, by decide⟩ ?_
    refine aw_icmp_eq (pc := 14) (tgt := 24) dX7_readUnit_14 (by decide) (fun hc => ?_) (fun hc => ?_)
    · rw [if_pos hc] at h
      exact aw_sel [1, 2, 3, 0] rfl (w_x_Rules_readUnit_24 N d hd c_x_Rules_readOpened c_x_Rules_readUnit c_x_Rules_readCondition hc_x_Rules_readOpened hc_x_Rules_readUnit hc_x_Rules_readCondition  _ _ _ _ _ h)
    · rw [if_neg hc] at h
      refine aw_iload (pc := 17) (q := 0) dX7_readUnit_17 rfl ?_
      refine aw_bipush (pc := 19) dX7_readUnit_19 (by decide) ⟨by decide, by decide⟩ ?_
      refine aw_icmp_ne (pc := 21) (tgt := 49) dX7_readUnit_21 (by decide) (fun hc => ?_) (fun hc => ?_)
      · rw [if_neg hc] at h
        refine aw_aload_n (pc := 49) (q := 1) dX7_readUnit_49 rfl ?_
        refine aw_aload_n (pc := 50) (q := 2) dX7_readUnit_50 rfl ?_
        refine aw_iload_n (pc := 51) (q := 3) dX7_readUnit_51 rfl ?_
        obtain ⟨r2, w2, h2, h⟩ := aw_b2s h
        refine aw_callV (pc := 52) (as := [.inr (.inr 1), .inl x2]) (st := []) (st' := [.inl r2]) dX7_readUnit_52 cv_RX7_60 (by decide) rfl rfl rfl rfl (Nat.le_of_ble_eq_true rfl) (w_x_Rules_readSum N d (by omega) _ _ _ _ h2) rfl ?_
        refine aw_if_ne (pc := 55) (tgt := 60) dX7_readUnit_55 (by decide) (fun hc => ?_) (fun hc => ?_)
        · rw [if_neg hc] at h
          exact aw_sel [1, 2, 3] rfl (w_x_Rules_readUnit_60 N d hd c_x_Rules_readOpened c_x_Rules_readUnit c_x_Rules_readCondition hc_x_Rules_readOpened hc_x_Rules_readUnit hc_x_Rules_readCondition  _ _ _ _ h)
        · rw [if_pos hc] at h
          refine aw_iconst (pc := 58) dX7_readUnit_58 ⟨by decide, by decide⟩ ?_
          cases h
          exact aw_zret (pc := 59) rfl (by decide) dX7_readUnit_59
      · rw [if_pos hc] at h
        exact aw_sel [1, 2, 3, 0] rfl (w_x_Rules_readUnit_24 N d hd c_x_Rules_readOpened c_x_Rules_readUnit c_x_Rules_readCondition hc_x_Rules_readOpened hc_x_Rules_readUnit hc_x_Rules_readCondition  _ _ _ _ _ h)
def x_Rules_readCondition_122 (c_x_Rules_readOpened : Int → Int → aw_W → Option (Int × aw_W)) (c_x_Rules_readUnit : Int → Int → aw_W → Option (Int × aw_W)) (c_x_Rules_readCondition : Int → Int → aw_W → Option (Int × aw_W)) (N : Nat) (w : aw_W) : Option (Int × aw_W) :=
  some (1, w)
theorem w_x_Rules_readCondition_122 {l : Launch} {K : aw_K} (N d : Nat) (hd : 61 ≤ d) (c_x_Rules_readOpened : Int → Int → aw_W → Option (Int × aw_W)) (c_x_Rules_readUnit : Int → Int → aw_W → Option (Int × aw_W)) (c_x_Rules_readCondition : Int → Int → aw_W → Option (Int × aw_W)) (hc_x_Rules_readOpened : ∀ (x2 x3 : Int) (w : aw_W) (y : Int) (v : aw_W), c_x_Rules_readOpened x2 x3 w = some (y, v) → aw_Met l K MX7_readOpened (d) [.inr (.inr 11), .inr (.inr 1), .inl x2, .inl x3] w (some (.inl y), v)) (hc_x_Rules_readUnit : ∀ (x2 x3 : Int) (w : aw_W) (y : Int) (v : aw_W), c_x_Rules_readUnit x2 x3 w = some (y, v) → aw_Met l K MX7_readUnit (d) [.inr (.inr 11), .inr (.inr 1), .inl x2, .inl x3] w (some (.inl y), v)) (hc_x_Rules_readCondition : ∀ (x2 x3 : Int) (w : aw_W) (y : Int) (v : aw_W), c_x_Rules_readCondition x2 x3 w = some (y, v) → aw_Met l K MX7_readCondition (d) [.inr (.inr 11), .inr (.inr 1), .inl x2, .inl x3] w (some (.inl y), v)) : ∀ (w : aw_W) (y : Int) (v : aw_W), x_Rules_readCondition_122 c_x_Rules_readOpened c_x_Rules_readUnit c_x_Rules_readCondition N w = some (y, v) → aw_AW l K MX7_readCondition (d + 1) 122 [] [] w (some (.inl y), v) := by
  intro w y v h
  unfold x_Rules_readCondition_122 at h
  refine aw_iconst (pc := 122) dX7_readCondition_122 ⟨by decide, by decide⟩ ?_
  cases h
  exact aw_zret (pc := 123) rfl (by decide) dX7_readCondition_123
def x_Rules_readCondition_111 (c_x_Rules_readOpened : Int → Int → aw_W → Option (Int × aw_W)) (c_x_Rules_readUnit : Int → Int → aw_W → Option (Int × aw_W)) (c_x_Rules_readCondition : Int → Int → aw_W → Option (Int × aw_W)) (N : Nat) (x4 : Int) (w : aw_W) : Option (Int × aw_W) :=
  if x4 = 0 then
    x_Rules_readCondition_122 c_x_Rules_readOpened c_x_Rules_readUnit c_x_Rules_readCondition N w
  else
    aw_b1 (x_Rules_put N (-124) w) fun w1 =>
      x_Rules_readCondition_122 c_x_Rules_readOpened c_x_Rules_readUnit c_x_Rules_readCondition N w1
theorem w_x_Rules_readCondition_111 {l : Launch} {K : aw_K} (N d : Nat) (hd : 61 ≤ d) (c_x_Rules_readOpened : Int → Int → aw_W → Option (Int × aw_W)) (c_x_Rules_readUnit : Int → Int → aw_W → Option (Int × aw_W)) (c_x_Rules_readCondition : Int → Int → aw_W → Option (Int × aw_W)) (hc_x_Rules_readOpened : ∀ (x2 x3 : Int) (w : aw_W) (y : Int) (v : aw_W), c_x_Rules_readOpened x2 x3 w = some (y, v) → aw_Met l K MX7_readOpened (d) [.inr (.inr 11), .inr (.inr 1), .inl x2, .inl x3] w (some (.inl y), v)) (hc_x_Rules_readUnit : ∀ (x2 x3 : Int) (w : aw_W) (y : Int) (v : aw_W), c_x_Rules_readUnit x2 x3 w = some (y, v) → aw_Met l K MX7_readUnit (d) [.inr (.inr 11), .inr (.inr 1), .inl x2, .inl x3] w (some (.inl y), v)) (hc_x_Rules_readCondition : ∀ (x2 x3 : Int) (w : aw_W) (y : Int) (v : aw_W), c_x_Rules_readCondition x2 x3 w = some (y, v) → aw_Met l K MX7_readCondition (d) [.inr (.inr 11), .inr (.inr 1), .inl x2, .inl x3] w (some (.inl y), v)) : ∀ (x4 : Int) (w : aw_W) (y : Int) (v : aw_W), x_Rules_readCondition_111 c_x_Rules_readOpened c_x_Rules_readUnit c_x_Rules_readCondition N x4 w = some (y, v) → aw_AW l K MX7_readCondition (d + 1) 111 [(0, .inr (.inr 11)), (4, .inl x4)] [] w (some (.inl y), v) := by
  intro x4 w y v h
  unfold x_Rules_readCondition_111 at h
  refine aw_iload (pc := 111) (q := 1) dX7_readCondition_111 rfl ?_
  refine aw_if_eq (pc := 113) (tgt := 122) dX7_readCondition_113 (by decide) (fun hc => ?_) (fun hc => ?_)
  · rw [if_pos hc] at h
    exact aw_sel [] rfl (w_x_Rules_readCondition_122 N d hd c_x_Rules_readOpened c_x_Rules_readUnit c_x_Rules_readCondition hc_x_Rules_readOpened hc_x_Rules_readUnit hc_x_Rules_readCondition  _ _ _ h)
  · rw [if_neg hc] at h
    refine aw_aload_n (pc := 116) (q := 0) dX7_readCondition_116 rfl ?_
    refine aw_bipush (pc := 117) dX7_readCondition_117 (by decide) ⟨by decide, by decide⟩ ?_
    obtain ⟨w1, h1, h⟩ := aw_b1s h
    refine aw_callV (pc := 119) (as := [.inl (-124)]) (st := []) (st' := []) dX7_readCondition_119 cv_RX7_71 (by decide) rfl rfl rfl rfl (Nat.le_of_ble_eq_true rfl) (w_x_Rules_put N d (by omega) _ _ _ h1) rfl ?_
    exact aw_sel [] rfl (w_x_Rules_readCondition_122 N d hd c_x_Rules_readOpened c_x_Rules_readUnit c_x_Rules_readCondition hc_x_Rules_readOpened hc_x_Rules_readUnit hc_x_Rules_readCondition  _ _ _ h)
def x_Rules_readCondition_105 (c_x_Rules_readOpened : Int → Int → aw_W → Option (Int × aw_W)) (c_x_Rules_readUnit : Int → Int → aw_W → Option (Int × aw_W)) (c_x_Rules_readCondition : Int → Int → aw_W → Option (Int × aw_W)) (N : Nat) (k18 : Int → Int → Int → aw_W → Option (Int × aw_W)) (x2 x4 x5 : Int) (w : aw_W) : Option (Int × aw_W) :=
  k18 x2 x4 (aw_w (x5 + 1)) w
theorem w_x_Rules_readCondition_105 {l : Launch} {K : aw_K} (N d : Nat) (hd : 61 ≤ d) (c_x_Rules_readOpened : Int → Int → aw_W → Option (Int × aw_W)) (c_x_Rules_readUnit : Int → Int → aw_W → Option (Int × aw_W)) (c_x_Rules_readCondition : Int → Int → aw_W → Option (Int × aw_W)) (hc_x_Rules_readOpened : ∀ (x2 x3 : Int) (w : aw_W) (y : Int) (v : aw_W), c_x_Rules_readOpened x2 x3 w = some (y, v) → aw_Met l K MX7_readOpened (d) [.inr (.inr 11), .inr (.inr 1), .inl x2, .inl x3] w (some (.inl y), v)) (hc_x_Rules_readUnit : ∀ (x2 x3 : Int) (w : aw_W) (y : Int) (v : aw_W), c_x_Rules_readUnit x2 x3 w = some (y, v) → aw_Met l K MX7_readUnit (d) [.inr (.inr 11), .inr (.inr 1), .inl x2, .inl x3] w (some (.inl y), v)) (hc_x_Rules_readCondition : ∀ (x2 x3 : Int) (w : aw_W) (y : Int) (v : aw_W), c_x_Rules_readCondition x2 x3 w = some (y, v) → aw_Met l K MX7_readCondition (d) [.inr (.inr 11), .inr (.inr 1), .inl x2, .inl x3] w (some (.inl y), v)) (k18 : Int → Int → Int → aw_W → Option (Int × aw_W)) (hk18 : ∀ (x2 x4 x5 : Int) (w : aw_W) (y : Int) (v : aw_W), k18 x2 x4 x5 w = some (y, v) → aw_AW l K MX7_readCondition (d + 1) 18 [(0, .inr (.inr 11)), (1, .inr (.inr 1)), (2, .inl x2), (4, .inl x4), (5, .inl x5)] [] w (some (.inl y), v)) : ∀ (x2 x4 x5 : Int) (w : aw_W) (y : Int) (v : aw_W), x_Rules_readCondition_105 c_x_Rules_readOpened c_x_Rules_readUnit c_x_Rules_readCondition N k18 x2 x4 x5 w = some (y, v) → aw_AW l K MX7_readCondition (d + 1) 105 [(0, .inr (.inr 11)), (1, .inr (.inr 1)), (2, .inl x2), (4, .inl x4), (5, .inl x5)] [] w (some (.inl y), v) := by
  intro x2 x4 x5 w y v h
  unfold x_Rules_readCondition_105 at h
  refine aw_iinc (pc := 105) (q := 4) (ls' := [(5, .inl (aw_w (x5 + 1))), (0, .inr (.inr 11)), (1, .inr (.inr 1)), (2, .inl x2), (4, .inl x4)]) dX7_readCondition_105 rfl (by decide) rfl ?_
  refine aw_goto (pc := 108) (tgt := 18) dX7_readCondition_108 (by decide) ?_
  exact aw_sel [1, 2, 3, 4, 0] rfl (hk18 _ _ _ _ _ _ h)
def x_Rules_readCondition_90 (c_x_Rules_readOpened : Int → Int → aw_W → Option (Int × aw_W)) (c_x_Rules_readUnit : Int → Int → aw_W → Option (Int × aw_W)) (c_x_Rules_readCondition : Int → Int → aw_W → Option (Int × aw_W)) (N : Nat) (w : aw_W) : Option (Int × aw_W) :=
  some (0, w)
theorem w_x_Rules_readCondition_90 {l : Launch} {K : aw_K} (N d : Nat) (hd : 61 ≤ d) (c_x_Rules_readOpened : Int → Int → aw_W → Option (Int × aw_W)) (c_x_Rules_readUnit : Int → Int → aw_W → Option (Int × aw_W)) (c_x_Rules_readCondition : Int → Int → aw_W → Option (Int × aw_W)) (hc_x_Rules_readOpened : ∀ (x2 x3 : Int) (w : aw_W) (y : Int) (v : aw_W), c_x_Rules_readOpened x2 x3 w = some (y, v) → aw_Met l K MX7_readOpened (d) [.inr (.inr 11), .inr (.inr 1), .inl x2, .inl x3] w (some (.inl y), v)) (hc_x_Rules_readUnit : ∀ (x2 x3 : Int) (w : aw_W) (y : Int) (v : aw_W), c_x_Rules_readUnit x2 x3 w = some (y, v) → aw_Met l K MX7_readUnit (d) [.inr (.inr 11), .inr (.inr 1), .inl x2, .inl x3] w (some (.inl y), v)) (hc_x_Rules_readCondition : ∀ (x2 x3 : Int) (w : aw_W) (y : Int) (v : aw_W), c_x_Rules_readCondition x2 x3 w = some (y, v) → aw_Met l K MX7_readCondition (d) [.inr (.inr 11), .inr (.inr 1), .inl x2, .inl x3] w (some (.inl y), v)) : ∀ (w : aw_W) (y : Int) (v : aw_W), x_Rules_readCondition_90 c_x_Rules_readOpened c_x_Rules_readUnit c_x_Rules_readCondition N w = some (y, v) → aw_AW l K MX7_readCondition (d + 1) 90 [] [] w (some (.inl y), v) := by
  intro w y v h
  unfold x_Rules_readCondition_90 at h
  refine aw_iconst (pc := 90) dX7_readCondition_90 ⟨by decide, by decide⟩ ?_
  cases h
  exact aw_zret (pc := 91) rfl (by decide) dX7_readCondition_91
def x_Rules_readCondition_80 (c_x_Rules_readOpened : Int → Int → aw_W → Option (Int × aw_W)) (c_x_Rules_readUnit : Int → Int → aw_W → Option (Int × aw_W)) (c_x_Rules_readCondition : Int → Int → aw_W → Option (Int × aw_W)) (N : Nat) (k18 : Int → Int → Int → aw_W → Option (Int × aw_W)) (x2 x4 x5 x6 : Int) (w : aw_W) : Option (Int × aw_W) :=
  aw_b2 (c_x_Rules_readUnit x2 0 w) fun r1 w1 =>
    if r1 = 0 then
      x_Rules_readCondition_90 c_x_Rules_readOpened c_x_Rules_readUnit c_x_Rules_readCondition N w1
    else
      if x6 = 38 then
        aw_b1 (x_Rules_put N (-38) w1) fun w2 =>
          x_Rules_readCondition_105 c_x_Rules_readOpened c_x_Rules_readUnit c_x_Rules_readCondition N k18 x2 x4 x5 w2
      else
        x_Rules_readCondition_105 c_x_Rules_readOpened c_x_Rules_readUnit c_x_Rules_readCondition N k18 x2 x4 x5 w1
theorem w_x_Rules_readCondition_80 {l : Launch} {K : aw_K} (N d : Nat) (hd : 61 ≤ d) (c_x_Rules_readOpened : Int → Int → aw_W → Option (Int × aw_W)) (c_x_Rules_readUnit : Int → Int → aw_W → Option (Int × aw_W)) (c_x_Rules_readCondition : Int → Int → aw_W → Option (Int × aw_W)) (hc_x_Rules_readOpened : ∀ (x2 x3 : Int) (w : aw_W) (y : Int) (v : aw_W), c_x_Rules_readOpened x2 x3 w = some (y, v) → aw_Met l K MX7_readOpened (d) [.inr (.inr 11), .inr (.inr 1), .inl x2, .inl x3] w (some (.inl y), v)) (hc_x_Rules_readUnit : ∀ (x2 x3 : Int) (w : aw_W) (y : Int) (v : aw_W), c_x_Rules_readUnit x2 x3 w = some (y, v) → aw_Met l K MX7_readUnit (d) [.inr (.inr 11), .inr (.inr 1), .inl x2, .inl x3] w (some (.inl y), v)) (hc_x_Rules_readCondition : ∀ (x2 x3 : Int) (w : aw_W) (y : Int) (v : aw_W), c_x_Rules_readCondition x2 x3 w = some (y, v) → aw_Met l K MX7_readCondition (d) [.inr (.inr 11), .inr (.inr 1), .inl x2, .inl x3] w (some (.inl y), v)) (k18 : Int → Int → Int → aw_W → Option (Int × aw_W)) (hk18 : ∀ (x2 x4 x5 : Int) (w : aw_W) (y : Int) (v : aw_W), k18 x2 x4 x5 w = some (y, v) → aw_AW l K MX7_readCondition (d + 1) 18 [(0, .inr (.inr 11)), (1, .inr (.inr 1)), (2, .inl x2), (4, .inl x4), (5, .inl x5)] [] w (some (.inl y), v)) : ∀ (x2 x4 x5 x6 : Int) (w : aw_W) (y : Int) (v : aw_W), x_Rules_readCondition_80 c_x_Rules_readOpened c_x_Rules_readUnit c_x_Rules_readCondition N k18 x2 x4 x5 x6 w = some (y, v) → aw_AW l K MX7_readCondition (d + 1) 80 [(0, .inr (.inr 11)), (1, .inr (.inr 1)), (2, .inl x2), (4, .inl x4), (5, .inl x5), (6, .inl x6)] [] w (some (.inl y), v) := by
  intro x2 x4 x5 x6 w y v h
  unfold x_Rules_readCondition_80 at h
  refine aw_aload_n (pc := 80) (q := 0) dX7_readCondition_80 rfl ?_
  refine aw_aload_n (pc := 81) (q := 1) dX7_readCondition_81 rfl ?_
  refine aw_iload_n (pc := 82) (q := 2) dX7_readCondition_82 rfl ?_
  refine aw_iconst (pc := 83) dX7_readCondition_83 ⟨by decide, by decide⟩ ?_
  obtain ⟨r1, w1, h1, h⟩ := aw_b2s h
  refine aw_callV (pc := 84) (as := [.inr (.inr 1), .inl x2, .inl 0]) (st := []) (st' := [.inl r1]) dX7_readCondition_84 cv_RX7_75 (by decide) rfl rfl rfl rfl (Nat.le_of_ble_eq_true rfl) (hc_x_Rules_readUnit _ _ _ _ _ h1) rfl ?_
  refine aw_if_ne (pc := 87) (tgt := 92) dX7_readCondition_87 (by decide) (fun hc => ?_) (fun hc => ?_)
  · rw [if_neg hc] at h
    refine aw_iload (pc := 92) (q := 5) dX7_readCondition_92 rfl ?_
    refine aw_bipush (pc := 94) dX7_readCondition_94 (by decide) ⟨by decide, by decide⟩ ?_
    refine aw_icmp_ne (pc := 96) (tgt := 105) dX7_readCondition_96 (by decide) (fun hc => ?_) (fun hc => ?_)
    · rw [if_neg hc] at h
      exact aw_sel [0, 1, 2, 3, 4] rfl (w_x_Rules_readCondition_105 N d hd c_x_Rules_readOpened c_x_Rules_readUnit c_x_Rules_readCondition hc_x_Rules_readOpened hc_x_Rules_readUnit hc_x_Rules_readCondition  _ hk18 _ _ _ _ _ _ h)
    · rw [if_pos hc] at h
      refine aw_aload_n (pc := 99) (q := 0) dX7_readCondition_99 rfl ?_
      refine aw_bipush (pc := 100) dX7_readCondition_100 (by decide) ⟨by decide, by decide⟩ ?_
      obtain ⟨w2, h2, h⟩ := aw_b1s h
      refine aw_callV (pc := 102) (as := [.inl (-38)]) (st := []) (st' := []) dX7_readCondition_102 cv_RX7_71 (by decide) rfl rfl rfl rfl (Nat.le_of_ble_eq_true rfl) (w_x_Rules_put N d (by omega) _ _ _ h2) rfl ?_
      exact aw_sel [0, 1, 2, 3, 4] rfl (w_x_Rules_readCondition_105 N d hd c_x_Rules_readOpened c_x_Rules_readUnit c_x_Rules_readCondition hc_x_Rules_readOpened hc_x_Rules_readUnit hc_x_Rules_readCondition  _ hk18 _ _ _ _ _ _ h)
  · rw [if_pos hc] at h
    exact aw_sel [] rfl (w_x_Rules_readCondition_90 N d hd c_x_Rules_readOpened c_x_Rules_readUnit c_x_Rules_readCondition hc_x_Rules_readOpened hc_x_Rules_readUnit hc_x_Rules_readCondition  _ _ _ h)
def x_Rules_readCondition_77 (c_x_Rules_readOpened : Int → Int → aw_W → Option (Int × aw_W)) (c_x_Rules_readUnit : Int → Int → aw_W → Option (Int × aw_W)) (c_x_Rules_readCondition : Int → Int → aw_W → Option (Int × aw_W)) (N : Nat) (k18 : Int → Int → Int → aw_W → Option (Int × aw_W)) (x2 x5 x6 : Int) (w : aw_W) : Option (Int × aw_W) :=
  x_Rules_readCondition_80 c_x_Rules_readOpened c_x_Rules_readUnit c_x_Rules_readCondition N k18 x2 1 x5 x6 w
theorem w_x_Rules_readCondition_77 {l : Launch} {K : aw_K} (N d : Nat) (hd : 61 ≤ d) (c_x_Rules_readOpened : Int → Int → aw_W → Option (Int × aw_W)) (c_x_Rules_readUnit : Int → Int → aw_W → Option (Int × aw_W)) (c_x_Rules_readCondition : Int → Int → aw_W → Option (Int × aw_W)) (hc_x_Rules_readOpened : ∀ (x2 x3 : Int) (w : aw_W) (y : Int) (v : aw_W), c_x_Rules_readOpened x2 x3 w = some (y, v) → aw_Met l K MX7_readOpened (d) [.inr (.inr 11), .inr (.inr 1), .inl x2, .inl x3] w (some (.inl y), v)) (hc_x_Rules_readUnit : ∀ (x2 x3 : Int) (w : aw_W) (y : Int) (v : aw_W), c_x_Rules_readUnit x2 x3 w = some (y, v) → aw_Met l K MX7_readUnit (d) [.inr (.inr 11), .inr (.inr 1), .inl x2, .inl x3] w (some (.inl y), v)) (hc_x_Rules_readCondition : ∀ (x2 x3 : Int) (w : aw_W) (y : Int) (v : aw_W), c_x_Rules_readCondition x2 x3 w = some (y, v) → aw_Met l K MX7_readCondition (d) [.inr (.inr 11), .inr (.inr 1), .inl x2, .inl x3] w (some (.inl y), v)) (k18 : Int → Int → Int → aw_W → Option (Int × aw_W)) (hk18 : ∀ (x2 x4 x5 : Int) (w : aw_W) (y : Int) (v : aw_W), k18 x2 x4 x5 w = some (y, v) → aw_AW l K MX7_readCondition (d + 1) 18 [(0, .inr (.inr 11)), (1, .inr (.inr 1)), (2, .inl x2), (4, .inl x4), (5, .inl x5)] [] w (some (.inl y), v)) : ∀ (x2 x5 x6 : Int) (w : aw_W) (y : Int) (v : aw_W), x_Rules_readCondition_77 c_x_Rules_readOpened c_x_Rules_readUnit c_x_Rules_readCondition N k18 x2 x5 x6 w = some (y, v) → aw_AW l K MX7_readCondition (d + 1) 77 [(0, .inr (.inr 11)), (1, .inr (.inr 1)), (2, .inl x2), (5, .inl x5), (6, .inl x6)] [] w (some (.inl y), v) := by
  intro x2 x5 x6 w y v h
  unfold x_Rules_readCondition_77 at h
  refine aw_iconst (pc := 77) dX7_readCondition_77 ⟨by decide, by decide⟩ ?_
  refine aw_istore (pc := 78) (ls' := [(4, .inl 1), (0, .inr (.inr 11)), (1, .inr (.inr 1)), (2, .inl x2), (5, .inl x5), (6, .inl x6)]) dX7_readCondition_78 (by decide) rfl ?_
  exact aw_sel [1, 2, 3, 0, 4, 5] rfl (w_x_Rules_readCondition_80 N d hd c_x_Rules_readOpened c_x_Rules_readUnit c_x_Rules_readCondition hc_x_Rules_readOpened hc_x_Rules_readUnit hc_x_Rules_readCondition  _ hk18 _ _ _ _ _ _ _ h)
def x_Rules_readCondition_49 (c_x_Rules_readOpened : Int → Int → aw_W → Option (Int × aw_W)) (c_x_Rules_readUnit : Int → Int → aw_W → Option (Int × aw_W)) (c_x_Rules_readCondition : Int → Int → aw_W → Option (Int × aw_W)) (N : Nat) (k18 : Int → Int → Int → aw_W → Option (Int × aw_W)) (x2 x4 x5 x6 : Int) (w : aw_W) : Option (Int × aw_W) :=
  if x6 = 124 then
    if x4 = 0 then
      x_Rules_readCondition_77 c_x_Rules_readOpened c_x_Rules_readUnit c_x_Rules_readCondition N k18 x2 x5 x6 (aw_up w 1 2 (aw_w ((w 1 2) + 1)))
    else
      aw_b1 (x_Rules_put N (-124) (aw_up w 1 2 (aw_w ((w 1 2) + 1)))) fun w1 =>
        x_Rules_readCondition_77 c_x_Rules_readOpened c_x_Rules_readUnit c_x_Rules_readCondition N k18 x2 x5 x6 w1
  else
    x_Rules_readCondition_80 c_x_Rules_readOpened c_x_Rules_readUnit c_x_Rules_readCondition N k18 x2 x4 x5 x6 (aw_up w 1 2 (aw_w ((w 1 2) + 1)))
theorem w_x_Rules_readCondition_49 {l : Launch} {K : aw_K} (N d : Nat) (hd : 61 ≤ d) (c_x_Rules_readOpened : Int → Int → aw_W → Option (Int × aw_W)) (c_x_Rules_readUnit : Int → Int → aw_W → Option (Int × aw_W)) (c_x_Rules_readCondition : Int → Int → aw_W → Option (Int × aw_W)) (hc_x_Rules_readOpened : ∀ (x2 x3 : Int) (w : aw_W) (y : Int) (v : aw_W), c_x_Rules_readOpened x2 x3 w = some (y, v) → aw_Met l K MX7_readOpened (d) [.inr (.inr 11), .inr (.inr 1), .inl x2, .inl x3] w (some (.inl y), v)) (hc_x_Rules_readUnit : ∀ (x2 x3 : Int) (w : aw_W) (y : Int) (v : aw_W), c_x_Rules_readUnit x2 x3 w = some (y, v) → aw_Met l K MX7_readUnit (d) [.inr (.inr 11), .inr (.inr 1), .inl x2, .inl x3] w (some (.inl y), v)) (hc_x_Rules_readCondition : ∀ (x2 x3 : Int) (w : aw_W) (y : Int) (v : aw_W), c_x_Rules_readCondition x2 x3 w = some (y, v) → aw_Met l K MX7_readCondition (d) [.inr (.inr 11), .inr (.inr 1), .inl x2, .inl x3] w (some (.inl y), v)) (k18 : Int → Int → Int → aw_W → Option (Int × aw_W)) (hk18 : ∀ (x2 x4 x5 : Int) (w : aw_W) (y : Int) (v : aw_W), k18 x2 x4 x5 w = some (y, v) → aw_AW l K MX7_readCondition (d + 1) 18 [(0, .inr (.inr 11)), (1, .inr (.inr 1)), (2, .inl x2), (4, .inl x4), (5, .inl x5)] [] w (some (.inl y), v)) : ∀ (x2 x4 x5 x6 : Int) (w : aw_W) (y : Int) (v : aw_W), x_Rules_readCondition_49 c_x_Rules_readOpened c_x_Rules_readUnit c_x_Rules_readCondition N k18 x2 x4 x5 x6 w = some (y, v) → aw_AW l K MX7_readCondition (d + 1) 49 [(0, .inr (.inr 11)), (1, .inr (.inr 1)), (2, .inl x2), (4, .inl x4), (5, .inl x5), (6, .inl x6)] [] w (some (.inl y), v) := by
  intro x2 x4 x5 x6 w y v h
  unfold x_Rules_readCondition_49 at h
  refine aw_aload_n (pc := 49) (q := 1) dX7_readCondition_49 rfl ?_
  refine aw_dup (pc := 50) dX7_readCondition_50 rfl ?_
  refine aw_getf (pc := 51) (v := .inl (w 1 2)) dX7_readCondition_51 fl_RX7_43 (by decide) rfl rfl rfl ?_
  refine aw_iconst (pc := 54) dX7_readCondition_54 ⟨by decide, by decide⟩ ?_
  refine aw_iadd (pc := 55) dX7_readCondition_55 ?_
  refine aw_puti (pc := 56) dX7_readCondition_56 fp_RX7_43 (by decide) rfl rfl ?_
  refine aw_iload (pc := 59) (q := 5) dX7_readCondition_59 rfl ?_
  refine aw_bipush (pc := 61) dX7_readCondition_61 (by decide) ⟨by decide, by decide⟩ ?_
  refine aw_icmp_ne (pc := 63) (tgt := 80) dX7_readCondition_63 (by decide) (fun hc => ?_) (fun hc => ?_)
  · rw [if_neg hc] at h
    exact aw_sel [0, 1, 2, 3, 4, 5] rfl (w_x_Rules_readCondition_80 N d hd c_x_Rules_readOpened c_x_Rules_readUnit c_x_Rules_readCondition hc_x_Rules_readOpened hc_x_Rules_readUnit hc_x_Rules_readCondition  _ hk18 _ _ _ _ _ _ _ h)
  · rw [if_pos hc] at h
    refine aw_iload (pc := 66) (q := 3) dX7_readCondition_66 rfl ?_
    refine aw_if_eq (pc := 68) (tgt := 77) dX7_readCondition_68 (by decide) (fun hc => ?_) (fun hc => ?_)
    · rw [if_pos hc] at h
      exact aw_sel [0, 1, 2, 4, 5] rfl (w_x_Rules_readCondition_77 N d hd c_x_Rules_readOpened c_x_Rules_readUnit c_x_Rules_readCondition hc_x_Rules_readOpened hc_x_Rules_readUnit hc_x_Rules_readCondition  _ hk18 _ _ _ _ _ _ h)
    · rw [if_neg hc] at h
      refine aw_aload_n (pc := 71) (q := 0) dX7_readCondition_71 rfl ?_
      refine aw_bipush (pc := 72) dX7_readCondition_72 (by decide) ⟨by decide, by decide⟩ ?_
      obtain ⟨w1, h1, h⟩ := aw_b1s h
      refine aw_callV (pc := 74) (as := [.inl (-124)]) (st := []) (st' := []) dX7_readCondition_74 cv_RX7_71 (by decide) rfl rfl rfl rfl (Nat.le_of_ble_eq_true rfl) (w_x_Rules_put N d (by omega) _ _ _ h1) rfl ?_
      exact aw_sel [0, 1, 2, 4, 5] rfl (w_x_Rules_readCondition_77 N d hd c_x_Rules_readOpened c_x_Rules_readUnit c_x_Rules_readCondition hc_x_Rules_readOpened hc_x_Rules_readUnit hc_x_Rules_readCondition  _ hk18 _ _ _ _ _ _ h)
def x_Rules_readCondition_46 (c_x_Rules_readOpened : Int → Int → aw_W → Option (Int × aw_W)) (c_x_Rules_readUnit : Int → Int → aw_W → Option (Int × aw_W)) (c_x_Rules_readCondition : Int → Int → aw_W → Option (Int × aw_W)) (N : Nat) (x4 : Int) (w : aw_W) : Option (Int × aw_W) :=
  x_Rules_readCondition_111 c_x_Rules_readOpened c_x_Rules_readUnit c_x_Rules_readCondition N x4 w
theorem w_x_Rules_readCondition_46 {l : Launch} {K : aw_K} (N d : Nat) (hd : 61 ≤ d) (c_x_Rules_readOpened : Int → Int → aw_W → Option (Int × aw_W)) (c_x_Rules_readUnit : Int → Int → aw_W → Option (Int × aw_W)) (c_x_Rules_readCondition : Int → Int → aw_W → Option (Int × aw_W)) (hc_x_Rules_readOpened : ∀ (x2 x3 : Int) (w : aw_W) (y : Int) (v : aw_W), c_x_Rules_readOpened x2 x3 w = some (y, v) → aw_Met l K MX7_readOpened (d) [.inr (.inr 11), .inr (.inr 1), .inl x2, .inl x3] w (some (.inl y), v)) (hc_x_Rules_readUnit : ∀ (x2 x3 : Int) (w : aw_W) (y : Int) (v : aw_W), c_x_Rules_readUnit x2 x3 w = some (y, v) → aw_Met l K MX7_readUnit (d) [.inr (.inr 11), .inr (.inr 1), .inl x2, .inl x3] w (some (.inl y), v)) (hc_x_Rules_readCondition : ∀ (x2 x3 : Int) (w : aw_W) (y : Int) (v : aw_W), c_x_Rules_readCondition x2 x3 w = some (y, v) → aw_Met l K MX7_readCondition (d) [.inr (.inr 11), .inr (.inr 1), .inl x2, .inl x3] w (some (.inl y), v)) : ∀ (x4 : Int) (w : aw_W) (y : Int) (v : aw_W), x_Rules_readCondition_46 c_x_Rules_readOpened c_x_Rules_readUnit c_x_Rules_readCondition N x4 w = some (y, v) → aw_AW l K MX7_readCondition (d + 1) 46 [(0, .inr (.inr 11)), (4, .inl x4)] [] w (some (.inl y), v) := by
  intro x4 w y v h
  unfold x_Rules_readCondition_46 at h
  refine aw_goto (pc := 46) (tgt := 111) dX7_readCondition_46 (by decide) ?_
  exact aw_sel [0, 1] rfl (w_x_Rules_readCondition_111 N d hd c_x_Rules_readOpened c_x_Rules_readUnit c_x_Rules_readCondition hc_x_Rules_readOpened hc_x_Rules_readUnit hc_x_Rules_readCondition  _ _ _ _ h)
def x_Rules_readCondition_18 (c_x_Rules_readOpened : Int → Int → aw_W → Option (Int × aw_W)) (c_x_Rules_readUnit : Int → Int → aw_W → Option (Int × aw_W)) (c_x_Rules_readCondition : Int → Int → aw_W → Option (Int × aw_W)) (N : Nat) : Nat → Int → Int → Int → aw_W → Option (Int × aw_W)
  | 0, _, _, _, _ => none
  | n + 1, x2, x4, x5, w =>
    if 160 ≤ x5 then
      x_Rules_readCondition_111 c_x_Rules_readOpened c_x_Rules_readUnit c_x_Rules_readCondition N x4 w
    else
      aw_b2 (x_Tape_sign N w) fun r1 w1 =>
        if r1 = 38 then
          x_Rules_readCondition_49 c_x_Rules_readOpened c_x_Rules_readUnit c_x_Rules_readCondition N (x_Rules_readCondition_18 c_x_Rules_readOpened c_x_Rules_readUnit c_x_Rules_readCondition N n) x2 x4 x5 r1 w1
        else
          if r1 = 124 then
            x_Rules_readCondition_49 c_x_Rules_readOpened c_x_Rules_readUnit c_x_Rules_readCondition N (x_Rules_readCondition_18 c_x_Rules_readOpened c_x_Rules_readUnit c_x_Rules_readCondition N n) x2 x4 x5 r1 w1
          else
            x_Rules_readCondition_46 c_x_Rules_readOpened c_x_Rules_readUnit c_x_Rules_readCondition N x4 w1
theorem w_x_Rules_readCondition_18 {l : Launch} {K : aw_K} (N d : Nat) (hd : 61 ≤ d) (c_x_Rules_readOpened : Int → Int → aw_W → Option (Int × aw_W)) (c_x_Rules_readUnit : Int → Int → aw_W → Option (Int × aw_W)) (c_x_Rules_readCondition : Int → Int → aw_W → Option (Int × aw_W)) (hc_x_Rules_readOpened : ∀ (x2 x3 : Int) (w : aw_W) (y : Int) (v : aw_W), c_x_Rules_readOpened x2 x3 w = some (y, v) → aw_Met l K MX7_readOpened (d) [.inr (.inr 11), .inr (.inr 1), .inl x2, .inl x3] w (some (.inl y), v)) (hc_x_Rules_readUnit : ∀ (x2 x3 : Int) (w : aw_W) (y : Int) (v : aw_W), c_x_Rules_readUnit x2 x3 w = some (y, v) → aw_Met l K MX7_readUnit (d) [.inr (.inr 11), .inr (.inr 1), .inl x2, .inl x3] w (some (.inl y), v)) (hc_x_Rules_readCondition : ∀ (x2 x3 : Int) (w : aw_W) (y : Int) (v : aw_W), c_x_Rules_readCondition x2 x3 w = some (y, v) → aw_Met l K MX7_readCondition (d) [.inr (.inr 11), .inr (.inr 1), .inl x2, .inl x3] w (some (.inl y), v)) : ∀ (n : Nat) (x2 x4 x5 : Int) (w : aw_W) (y : Int) (v : aw_W), x_Rules_readCondition_18 c_x_Rules_readOpened c_x_Rules_readUnit c_x_Rules_readCondition N n x2 x4 x5 w = some (y, v) → aw_AW l K MX7_readCondition (d + 1) 18 [(0, .inr (.inr 11)), (1, .inr (.inr 1)), (2, .inl x2), (4, .inl x4), (5, .inl x5)] [] w (some (.inl y), v) := by
  intro n
  induction n with
  | zero => intro x2 x4 x5 w y v h; rw [x_Rules_readCondition_18] at h; cases h
  | succ n ih =>
    intro x2 x4 x5 w y v h
    rw [x_Rules_readCondition_18] at h
    refine aw_iload (pc := 18) (q := 4) dX7_readCondition_18 rfl ?_
    refine aw_sipush (pc := 20) dX7_readCondition_20 (by decide) ⟨by decide, by decide⟩ ?_
    refine aw_icmp_ge (pc := 23) (tgt := 111) dX7_readCondition_23 (by decide) (fun hc => ?_) (fun hc => ?_)
    · rw [if_pos hc] at h
      exact aw_sel [0, 3] rfl (w_x_Rules_readCondition_111 N d hd c_x_Rules_readOpened c_x_Rules_readUnit c_x_Rules_readCondition hc_x_Rules_readOpened hc_x_Rules_readUnit hc_x_Rules_readCondition  _ _ _ _ h)
    · rw [if_neg hc] at h
      refine aw_aload_n (pc := 26) (q := 1) dX7_readCondition_26 rfl ?_
      obtain ⟨r1, w1, h1, h⟩ := aw_b2s h
      refine aw_callV (pc := 27) (as := []) (st := []) (st' := [.inl r1]) dX7_readCondition_27 cv_RX7_56 (by decide) rfl rfl rfl rfl (Nat.le_of_ble_eq_true rfl) (w_x_Tape_sign N d (by omega) _ _ _ h1) rfl ?_
      refine aw_istore (pc := 30) (ls' := [(6, .inl r1), (0, .inr (.inr 11)), (1, .inr (.inr 1)), (2, .inl x2), (4, .inl x4), (5, .inl x5)]) dX7_readCondition_30 (by decide) rfl ?_
      refine aw_iload (pc := 32) (q := 0) dX7_readCondition_32 rfl ?_
      refine aw_bipush (pc := 34) dX7_readCondition_34 (by decide) ⟨by decide, by decide⟩ ?_
      refine aw_icmp_eq (pc := 36) (tgt := 49) dX7_readCondition_36 (by decide) (fun hc => ?_) (fun hc => ?_)
      · rw [if_pos hc] at h
        exact aw_sel [1, 2, 3, 4, 5, 0] rfl (w_x_Rules_readCondition_49 N d hd c_x_Rules_readOpened c_x_Rules_readUnit c_x_Rules_readCondition hc_x_Rules_readOpened hc_x_Rules_readUnit hc_x_Rules_readCondition  _ ih _ _ _ _ _ _ _ h)
      · rw [if_neg hc] at h
        refine aw_iload (pc := 39) (q := 0) dX7_readCondition_39 rfl ?_
        refine aw_bipush (pc := 41) dX7_readCondition_41 (by decide) ⟨by decide, by decide⟩ ?_
        refine aw_icmp_eq (pc := 43) (tgt := 49) dX7_readCondition_43 (by decide) (fun hc => ?_) (fun hc => ?_)
        · rw [if_pos hc] at h
          exact aw_sel [1, 2, 3, 4, 5, 0] rfl (w_x_Rules_readCondition_49 N d hd c_x_Rules_readOpened c_x_Rules_readUnit c_x_Rules_readCondition hc_x_Rules_readOpened hc_x_Rules_readUnit hc_x_Rules_readCondition  _ ih _ _ _ _ _ _ _ h)
        · rw [if_neg hc] at h
          exact aw_sel [1, 4] rfl (w_x_Rules_readCondition_46 N d hd c_x_Rules_readOpened c_x_Rules_readUnit c_x_Rules_readCondition hc_x_Rules_readOpened hc_x_Rules_readUnit hc_x_Rules_readCondition  _ _ _ _ h)
def x_Rules_readCondition_b (c_x_Rules_readOpened : Int → Int → aw_W → Option (Int × aw_W)) (c_x_Rules_readUnit : Int → Int → aw_W → Option (Int × aw_W)) (c_x_Rules_readCondition : Int → Int → aw_W → Option (Int × aw_W)) (N : Nat) (x2 x3 : Int) (w : aw_W) : Option (Int × aw_W) :=
  aw_b2 (c_x_Rules_readUnit x2 x3 w) fun r1 w1 =>
    if r1 = 0 then
      some (0, w1)
    else
      x_Rules_readCondition_18 c_x_Rules_readOpened c_x_Rules_readUnit c_x_Rules_readCondition N N x2 0 0 w1
theorem w_x_Rules_readCondition_b {l : Launch} {K : aw_K} (N d : Nat) (hd : 61 ≤ d) (c_x_Rules_readOpened : Int → Int → aw_W → Option (Int × aw_W)) (c_x_Rules_readUnit : Int → Int → aw_W → Option (Int × aw_W)) (c_x_Rules_readCondition : Int → Int → aw_W → Option (Int × aw_W)) (hc_x_Rules_readOpened : ∀ (x2 x3 : Int) (w : aw_W) (y : Int) (v : aw_W), c_x_Rules_readOpened x2 x3 w = some (y, v) → aw_Met l K MX7_readOpened (d) [.inr (.inr 11), .inr (.inr 1), .inl x2, .inl x3] w (some (.inl y), v)) (hc_x_Rules_readUnit : ∀ (x2 x3 : Int) (w : aw_W) (y : Int) (v : aw_W), c_x_Rules_readUnit x2 x3 w = some (y, v) → aw_Met l K MX7_readUnit (d) [.inr (.inr 11), .inr (.inr 1), .inl x2, .inl x3] w (some (.inl y), v)) (hc_x_Rules_readCondition : ∀ (x2 x3 : Int) (w : aw_W) (y : Int) (v : aw_W), c_x_Rules_readCondition x2 x3 w = some (y, v) → aw_Met l K MX7_readCondition (d) [.inr (.inr 11), .inr (.inr 1), .inl x2, .inl x3] w (some (.inl y), v)) : ∀ (x2 x3 : Int) (w : aw_W) (y : Int) (v : aw_W), x_Rules_readCondition_b c_x_Rules_readOpened c_x_Rules_readUnit c_x_Rules_readCondition N x2 x3 w = some (y, v) → aw_Met l K MX7_readCondition (d + 1) [.inr (.inr 11), .inr (.inr 1), .inl x2, .inl x3] w (some (.inl y), v) := by
  intro x2 x3 w y v h
  unfold x_Rules_readCondition_b at h
  refine aw_enter rfl (Nat.le_of_ble_eq_true rfl) ?_
  show aw_AW l K MX7_readCondition (d + 1) 0 [(0, .inr (.inr 11)), (1, .inr (.inr 1)), (2, .inl x2), (3, .inl x3)] [] w (some (.inl y), v)
  refine aw_aload_n (pc := 0) (q := 0) dX7_readCondition_0 rfl ?_
  refine aw_aload_n (pc := 1) (q := 1) dX7_readCondition_1 rfl ?_
  refine aw_iload_n (pc := 2) (q := 2) dX7_readCondition_2 rfl ?_
  refine aw_iload_n (pc := 3) (q := 3) dX7_readCondition_3 rfl ?_
  obtain ⟨r1, w1, h1, h⟩ := aw_b2s h
  refine aw_callV (pc := 4) (as := [.inr (.inr 1), .inl x2, .inl x3]) (st := []) (st' := [.inl r1]) dX7_readCondition_4 cv_RX7_75 (by decide) rfl rfl rfl rfl (Nat.le_of_ble_eq_true rfl) (hc_x_Rules_readUnit _ _ _ _ _ h1) rfl ?_
  refine aw_if_ne (pc := 7) (tgt := 12) dX7_readCondition_7 (by decide) (fun hc => ?_) (fun hc => ?_)
  · rw [if_neg hc] at h
    refine aw_iconst (pc := 12) dX7_readCondition_12 ⟨by decide, by decide⟩ ?_
    refine aw_istore (pc := 13) (ls' := [(4, .inl 0), (0, .inr (.inr 11)), (1, .inr (.inr 1)), (2, .inl x2), (3, .inl x3)]) dX7_readCondition_13 (by decide) rfl ?_
    refine aw_iconst (pc := 15) dX7_readCondition_15 ⟨by decide, by decide⟩ ?_
    refine aw_istore (pc := 16) (ls' := [(5, .inl 0), (4, .inl 0), (0, .inr (.inr 11)), (1, .inr (.inr 1)), (2, .inl x2), (3, .inl x3)]) dX7_readCondition_16 (by decide) rfl ?_
    exact aw_sel [2, 3, 4, 1, 0] rfl (w_x_Rules_readCondition_18 N d hd c_x_Rules_readOpened c_x_Rules_readUnit c_x_Rules_readCondition hc_x_Rules_readOpened hc_x_Rules_readUnit hc_x_Rules_readCondition  N _ _ _ _ _ _ h)
  · rw [if_pos hc] at h
    refine aw_iconst (pc := 10) dX7_readCondition_10 ⟨by decide, by decide⟩ ?_
    cases h
    exact aw_zret (pc := 11) rfl (by decide) dX7_readCondition_11
def g_x_Rules_readOpened (N : Nat) : Nat → (Int → Int → aw_W → Option (Int × aw_W)) × (Int → Int → aw_W → Option (Int × aw_W)) × (Int → Int → aw_W → Option (Int × aw_W))
  | 0 => ((fun _ _ _ => none), (fun _ _ _ => none), (fun _ _ _ => none))
  | D + 1 => (x_Rules_readOpened_b (g_x_Rules_readOpened N D).1 (g_x_Rules_readOpened N D).2.1 (g_x_Rules_readOpened N D).2.2 N, x_Rules_readUnit_b (g_x_Rules_readOpened N D).1 (g_x_Rules_readOpened N D).2.1 (g_x_Rules_readOpened N D).2.2 N, x_Rules_readCondition_b (g_x_Rules_readOpened N D).1 (g_x_Rules_readOpened N D).2.1 (g_x_Rules_readOpened N D).2.2 N)
def x_Rules_readOpened (N : Nat) : Int → Int → aw_W → Option (Int × aw_W) := (g_x_Rules_readOpened N 60).1
def x_Rules_readUnit (N : Nat) : Int → Int → aw_W → Option (Int × aw_W) := (g_x_Rules_readOpened N 60).2.1
def x_Rules_readCondition (N : Nat) : Int → Int → aw_W → Option (Int × aw_W) := (g_x_Rules_readOpened N 60).2.2
theorem w_g_x_Rules_readOpened {l : Launch} {K : aw_K} (N : Nat) : ∀ D d : Nat, 61 + D ≤ d → (∀ (x2 x3 : Int) (w : aw_W) (y : Int) (v : aw_W), (g_x_Rules_readOpened N D).1 x2 x3 w = some (y, v) → aw_Met l K MX7_readOpened (d) [.inr (.inr 11), .inr (.inr 1), .inl x2, .inl x3] w (some (.inl y), v)) ∧ (∀ (x2 x3 : Int) (w : aw_W) (y : Int) (v : aw_W), (g_x_Rules_readOpened N D).2.1 x2 x3 w = some (y, v) → aw_Met l K MX7_readUnit (d) [.inr (.inr 11), .inr (.inr 1), .inl x2, .inl x3] w (some (.inl y), v)) ∧ (∀ (x2 x3 : Int) (w : aw_W) (y : Int) (v : aw_W), (g_x_Rules_readOpened N D).2.2 x2 x3 w = some (y, v) → aw_Met l K MX7_readCondition (d) [.inr (.inr 11), .inr (.inr 1), .inl x2, .inl x3] w (some (.inl y), v))
  | 0, d, _ => ⟨fun _ _ _ _ _ h => (by cases h), fun _ _ _ _ _ h => (by cases h), fun _ _ _ _ _ h => (by cases h)⟩
  | D + 1, 0, h => absurd h (by omega)
  | D + 1, d + 1, h => by
    have ih := w_g_x_Rules_readOpened (l := l) (K := K) N D d (by omega)
    exact ⟨w_x_Rules_readOpened_b N d (by omega) _ _ _ ih.1 ih.2.1 ih.2.2, w_x_Rules_readUnit_b N d (by omega) _ _ _ ih.1 ih.2.1 ih.2.2, w_x_Rules_readCondition_b N d (by omega) _ _ _ ih.1 ih.2.1 ih.2.2⟩
theorem w_x_Rules_readOpened {l : Launch} {K : aw_K} (N d : Nat) (hd : 121 ≤ d) : ∀ (x2 x3 : Int) (w : aw_W) (y : Int) (v : aw_W), x_Rules_readOpened N x2 x3 w = some (y, v) → aw_Met l K MX7_readOpened (d) [.inr (.inr 11), .inr (.inr 1), .inl x2, .inl x3] w (some (.inl y), v) := (w_g_x_Rules_readOpened N 60 d (by omega)).1
theorem w_x_Rules_readUnit {l : Launch} {K : aw_K} (N d : Nat) (hd : 121 ≤ d) : ∀ (x2 x3 : Int) (w : aw_W) (y : Int) (v : aw_W), x_Rules_readUnit N x2 x3 w = some (y, v) → aw_Met l K MX7_readUnit (d) [.inr (.inr 11), .inr (.inr 1), .inl x2, .inl x3] w (some (.inl y), v) := (w_g_x_Rules_readOpened N 60 d (by omega)).2.1
theorem w_x_Rules_readCondition {l : Launch} {K : aw_K} (N d : Nat) (hd : 121 ≤ d) : ∀ (x2 x3 : Int) (w : aw_W) (y : Int) (v : aw_W), x_Rules_readCondition N x2 x3 w = some (y, v) → aw_Met l K MX7_readCondition (d) [.inr (.inr 11), .inr (.inr 1), .inl x2, .inl x3] w (some (.inl y), v) := (w_g_x_Rules_readOpened N 60 d (by omega)).2.2
theorem dX7_readClause_0 : decode cX7_readClause 0 = .ok (.aload_n 1, 1) := by decide +kernel
theorem dX7_readClause_1 : decode cX7_readClause 1 = .ok (.bipush 121, 2) := by decide +kernel
theorem dX7_readClause_3 : decode cX7_readClause 3 = .ok (.invokevirtual 52, 3) := by decide +kernel
theorem dX7_readClause_6 : decode cX7_readClause 6 = .ok (.ifCond .eq 12, 3) := by decide +kernel
theorem dX7_readClause_9 : decode cX7_readClause 9 = .ok (.aload_n 1, 1) := by decide +kernel
theorem dX7_readClause_10 : decode cX7_readClause 10 = .ok (.bipush 58, 2) := by decide +kernel
theorem dX7_readClause_12 : decode cX7_readClause 12 = .ok (.invokevirtual 52, 3) := by decide +kernel
theorem dX7_readClause_15 : decode cX7_readClause 15 = .ok (.ifCond .ne 5, 3) := by decide +kernel
theorem dX7_readClause_18 : decode cX7_readClause 18 = .ok (.iconst 0, 1) := by decide +kernel
theorem dX7_readClause_19 : decode cX7_readClause 19 = .ok (.ireturn, 1) := by decide +kernel
theorem dX7_readClause_20 : decode cX7_readClause 20 = .ok (.aload_n 1, 1) := by decide +kernel
theorem dX7_readClause_21 : decode cX7_readClause 21 = .ok (.invokevirtual 56, 3) := by decide +kernel
theorem dX7_readClause_24 : decode cX7_readClause 24 = .ok (.istore_n 2, 1) := by decide +kernel
theorem dX7_readClause_25 : decode cX7_readClause 25 = .ok (.iload_n 2, 1) := by decide +kernel
theorem dX7_readClause_26 : decode cX7_readClause 26 = .ok (.bipush 33, 2) := by decide +kernel
theorem dX7_readClause_28 : decode cX7_readClause 28 = .ok (.if_icmp .eq 13, 3) := by decide +kernel
theorem dX7_readClause_31 : decode cX7_readClause 31 = .ok (.iload_n 2, 1) := by decide +kernel
theorem dX7_readClause_32 : decode cX7_readClause 32 = .ok (.bipush 40, 2) := by decide +kernel
theorem dX7_readClause_34 : decode cX7_readClause 34 = .ok (.if_icmp .eq 7, 3) := by decide +kernel
theorem dX7_readClause_37 : decode cX7_readClause 37 = .ok (.iconst 1, 1) := by decide +kernel
theorem dX7_readClause_38 : decode cX7_readClause 38 = .ok (.goto 4, 3) := by decide +kernel
theorem dX7_readClause_41 : decode cX7_readClause 41 = .ok (.iconst 0, 1) := by decide +kernel
theorem dX7_readClause_42 : decode cX7_readClause 42 = .ok (.istore_n 3, 1) := by decide +kernel
theorem dX7_readClause_43 : decode cX7_readClause 43 = .ok (.iload_n 3, 1) := by decide +kernel
theorem dX7_readClause_44 : decode cX7_readClause 44 = .ok (.ifCond .eq 14, 3) := by decide +kernel
theorem dX7_readClause_47 : decode cX7_readClause 47 = .ok (.aload_n 0, 1) := by decide +kernel
theorem dX7_readClause_48 : decode cX7_readClause 48 = .ok (.aload_n 1, 1) := by decide +kernel
theorem dX7_readClause_49 : decode cX7_readClause 49 = .ok (.iconst 0, 1) := by decide +kernel
theorem dX7_readClause_50 : decode cX7_readClause 50 = .ok (.invokevirtual 60, 3) := by decide +kernel
theorem dX7_readClause_53 : decode cX7_readClause 53 = .ok (.ifCond .ne 5, 3) := by decide +kernel
theorem dX7_readClause_56 : decode cX7_readClause 56 = .ok (.iconst 0, 1) := by decide +kernel
theorem dX7_readClause_57 : decode cX7_readClause 57 = .ok (.ireturn, 1) := by decide +kernel
theorem dX7_readClause_58 : decode cX7_readClause 58 = .ok (.iload_n 3, 1) := by decide +kernel
theorem dX7_readClause_59 : decode cX7_readClause 59 = .ok (.ifCond .eq 13, 3) := by decide +kernel
theorem dX7_readClause_62 : decode cX7_readClause 62 = .ok (.aload_n 1, 1) := by decide +kernel
theorem dX7_readClause_63 : decode cX7_readClause 63 = .ok (.invokevirtual 56, 3) := by decide +kernel
theorem dX7_readClause_66 : decode cX7_readClause 66 = .ok (.invokestatic 64, 3) := by decide +kernel
theorem dX7_readClause_69 : decode cX7_readClause 69 = .ok (.ifCond .eq 41, 3) := by decide +kernel
theorem dX7_readClause_72 : decode cX7_readClause 72 = .ok (.aload_n 0, 1) := by decide +kernel
theorem dX7_readClause_73 : decode cX7_readClause 73 = .ok (.aload_n 1, 1) := by decide +kernel
theorem dX7_readClause_74 : decode cX7_readClause 74 = .ok (.iconst 0, 1) := by decide +kernel
theorem dX7_readClause_75 : decode cX7_readClause 75 = .ok (.iload_n 3, 1) := by decide +kernel
theorem dX7_readClause_76 : decode cX7_readClause 76 = .ok (.invokevirtual 67, 3) := by decide +kernel
theorem dX7_readClause_79 : decode cX7_readClause 79 = .ok (.ifCond .eq 12, 3) := by decide +kernel
theorem dX7_readClause_82 : decode cX7_readClause 82 = .ok (.aload_n 1, 1) := by decide +kernel
theorem dX7_readClause_83 : decode cX7_readClause 83 = .ok (.bipush 63, 2) := by decide +kernel
theorem dX7_readClause_85 : decode cX7_readClause 85 = .ok (.invokevirtual 52, 3) := by decide +kernel
theorem dX7_readClause_88 : decode cX7_readClause 88 = .ok (.ifCond .ne 5, 3) := by decide +kernel
theorem dX7_readClause_91 : decode cX7_readClause 91 = .ok (.iconst 0, 1) := by decide +kernel
theorem dX7_readClause_92 : decode cX7_readClause 92 = .ok (.ireturn, 1) := by decide +kernel
theorem dX7_readClause_93 : decode cX7_readClause 93 = .ok (.aload_n 0, 1) := by decide +kernel
theorem dX7_readClause_94 : decode cX7_readClause 94 = .ok (.bipush (-63), 2) := by decide +kernel
theorem dX7_readClause_96 : decode cX7_readClause 96 = .ok (.invokevirtual 71, 3) := by decide +kernel
theorem dX7_readClause_99 : decode cX7_readClause 99 = .ok (.aload_n 0, 1) := by decide +kernel
theorem dX7_readClause_100 : decode cX7_readClause 100 = .ok (.aload_n 1, 1) := by decide +kernel
theorem dX7_readClause_101 : decode cX7_readClause 101 = .ok (.iconst 0, 1) := by decide +kernel
theorem dX7_readClause_102 : decode cX7_readClause 102 = .ok (.invokevirtual 60, 3) := by decide +kernel
theorem dX7_readClause_105 : decode cX7_readClause 105 = .ok (.ifCond .ne 5, 3) := by decide +kernel
theorem dX7_readClause_108 : decode cX7_readClause 108 = .ok (.iconst 0, 1) := by decide +kernel
theorem dX7_readClause_109 : decode cX7_readClause 109 = .ok (.ireturn, 1) := by decide +kernel
theorem dX7_readClause_110 : decode cX7_readClause 110 = .ok (.aload_n 0, 1) := by decide +kernel
theorem dX7_readClause_111 : decode cX7_readClause 111 = .ok (.bipush (-59), 2) := by decide +kernel
theorem dX7_readClause_113 : decode cX7_readClause 113 = .ok (.invokevirtual 71, 3) := by decide +kernel
theorem dX7_readClause_116 : decode cX7_readClause 116 = .ok (.iconst 1, 1) := by decide +kernel
theorem dX7_readClause_117 : decode cX7_readClause 117 = .ok (.ireturn, 1) := by decide +kernel
def x_Rules_readClause_18 (N : Nat) (w : aw_W) : Option (Int × aw_W) :=
  some (0, w)
theorem w_x_Rules_readClause_18 {l : Launch} {K : aw_K} (N d : Nat) (hd : 121 ≤ d) : ∀ (w : aw_W) (y : Int) (v : aw_W), x_Rules_readClause_18 N w = some (y, v) → aw_AW l K MX7_readClause (d + 1) 18 [] [] w (some (.inl y), v) := by
  intro w y v h
  unfold x_Rules_readClause_18 at h
  refine aw_iconst (pc := 18) dX7_readClause_18 ⟨by decide, by decide⟩ ?_
  cases h
  exact aw_zret (pc := 19) rfl (by decide) dX7_readClause_19
def x_Rules_readClause_91 (N : Nat) (w : aw_W) : Option (Int × aw_W) :=
  some (0, w)
theorem w_x_Rules_readClause_91 {l : Launch} {K : aw_K} (N d : Nat) (hd : 121 ≤ d) : ∀ (w : aw_W) (y : Int) (v : aw_W), x_Rules_readClause_91 N w = some (y, v) → aw_AW l K MX7_readClause (d + 1) 91 [] [] w (some (.inl y), v) := by
  intro w y v h
  unfold x_Rules_readClause_91 at h
  refine aw_iconst (pc := 91) dX7_readClause_91 ⟨by decide, by decide⟩ ?_
  cases h
  exact aw_zret (pc := 92) rfl (by decide) dX7_readClause_92
def x_Rules_readClause_110 (N : Nat) (w : aw_W) : Option (Int × aw_W) :=
  aw_b1 (x_Rules_put N (-59) w) fun w1 =>
    some (1, w1)
theorem w_x_Rules_readClause_110 {l : Launch} {K : aw_K} (N d : Nat) (hd : 121 ≤ d) : ∀ (w : aw_W) (y : Int) (v : aw_W), x_Rules_readClause_110 N w = some (y, v) → aw_AW l K MX7_readClause (d + 1) 110 [(0, .inr (.inr 11))] [] w (some (.inl y), v) := by
  intro w y v h
  unfold x_Rules_readClause_110 at h
  refine aw_aload_n (pc := 110) (q := 0) dX7_readClause_110 rfl ?_
  refine aw_bipush (pc := 111) dX7_readClause_111 (by decide) ⟨by decide, by decide⟩ ?_
  obtain ⟨w1, h1, h⟩ := aw_b1s h
  refine aw_callV (pc := 113) (as := [.inl (-59)]) (st := []) (st' := []) dX7_readClause_113 cv_RX7_71 (by decide) rfl rfl rfl rfl (Nat.le_of_ble_eq_true rfl) (w_x_Rules_put N d (by omega) _ _ _ h1) rfl ?_
  refine aw_iconst (pc := 116) dX7_readClause_116 ⟨by decide, by decide⟩ ?_
  cases h
  exact aw_zret (pc := 117) rfl (by decide) dX7_readClause_117
def x_Rules_readClause_72 (N : Nat) (x3 : Int) (w : aw_W) : Option (Int × aw_W) :=
  aw_b2 (x_Rules_readCondition N 0 x3 w) fun r1 w1 =>
    if r1 = 0 then
      x_Rules_readClause_91 N w1
    else
      aw_b2 (x_Tape_take N 63 w1) fun r2 w2 =>
        if r2 = 0 then
          x_Rules_readClause_91 N w2
        else
          aw_b1 (x_Rules_put N (-63) w2) fun w3 =>
            aw_b2 (x_Rules_readSum N 0 w3) fun r4 w4 =>
              if r4 = 0 then
                some (0, w4)
              else
                x_Rules_readClause_110 N w4
theorem w_x_Rules_readClause_72 {l : Launch} {K : aw_K} (N d : Nat) (hd : 121 ≤ d) : ∀ (x3 : Int) (w : aw_W) (y : Int) (v : aw_W), x_Rules_readClause_72 N x3 w = some (y, v) → aw_AW l K MX7_readClause (d + 1) 72 [(0, .inr (.inr 11)), (1, .inr (.inr 1)), (3, .inl x3)] [] w (some (.inl y), v) := by
  intro x3 w y v h
  unfold x_Rules_readClause_72 at h
  refine aw_aload_n (pc := 72) (q := 0) dX7_readClause_72 rfl ?_
  refine aw_aload_n (pc := 73) (q := 1) dX7_readClause_73 rfl ?_
  refine aw_iconst (pc := 74) dX7_readClause_74 ⟨by decide, by decide⟩ ?_
  refine aw_iload_n (pc := 75) (q := 2) dX7_readClause_75 rfl ?_
  obtain ⟨r1, w1, h1, h⟩ := aw_b2s h
  refine aw_callV (pc := 76) (as := [.inr (.inr 1), .inl 0, .inl x3]) (st := []) (st' := [.inl r1]) dX7_readClause_76 cv_RX7_67 (by decide) rfl rfl rfl rfl (Nat.le_of_ble_eq_true rfl) (w_x_Rules_readCondition N d (by omega) _ _ _ _ _ h1) rfl ?_
  refine aw_if_eq (pc := 79) (tgt := 91) dX7_readClause_79 (by decide) (fun hc => ?_) (fun hc => ?_)
  · rw [if_pos hc] at h
    exact aw_sel [] rfl (w_x_Rules_readClause_91 N d hd  _ _ _ h)
  · rw [if_neg hc] at h
    refine aw_aload_n (pc := 82) (q := 1) dX7_readClause_82 rfl ?_
    refine aw_bipush (pc := 83) dX7_readClause_83 (by decide) ⟨by decide, by decide⟩ ?_
    obtain ⟨r2, w2, h2, h⟩ := aw_b2s h
    refine aw_callV (pc := 85) (as := [.inl 63]) (st := []) (st' := [.inl r2]) dX7_readClause_85 cv_RX7_52 (by decide) rfl rfl rfl rfl (Nat.le_of_ble_eq_true rfl) (w_x_Tape_take N d (by omega) _ _ _ _ h2) rfl ?_
    refine aw_if_ne (pc := 88) (tgt := 93) dX7_readClause_88 (by decide) (fun hc => ?_) (fun hc => ?_)
    · rw [if_neg hc] at h
      refine aw_aload_n (pc := 93) (q := 0) dX7_readClause_93 rfl ?_
      refine aw_bipush (pc := 94) dX7_readClause_94 (by decide) ⟨by decide, by decide⟩ ?_
      obtain ⟨w3, h3, h⟩ := aw_b1s h
      refine aw_callV (pc := 96) (as := [.inl (-63)]) (st := []) (st' := []) dX7_readClause_96 cv_RX7_71 (by decide) rfl rfl rfl rfl (Nat.le_of_ble_eq_true rfl) (w_x_Rules_put N d (by omega) _ _ _ h3) rfl ?_
      refine aw_aload_n (pc := 99) (q := 0) dX7_readClause_99 rfl ?_
      refine aw_aload_n (pc := 100) (q := 1) dX7_readClause_100 rfl ?_
      refine aw_iconst (pc := 101) dX7_readClause_101 ⟨by decide, by decide⟩ ?_
      obtain ⟨r4, w4, h4, h⟩ := aw_b2s h
      refine aw_callV (pc := 102) (as := [.inr (.inr 1), .inl 0]) (st := []) (st' := [.inl r4]) dX7_readClause_102 cv_RX7_60 (by decide) rfl rfl rfl rfl (Nat.le_of_ble_eq_true rfl) (w_x_Rules_readSum N d (by omega) _ _ _ _ h4) rfl ?_
      refine aw_if_ne (pc := 105) (tgt := 110) dX7_readClause_105 (by decide) (fun hc => ?_) (fun hc => ?_)
      · rw [if_neg hc] at h
        exact aw_sel [0] rfl (w_x_Rules_readClause_110 N d hd  _ _ _ h)
      · rw [if_pos hc] at h
        refine aw_iconst (pc := 108) dX7_readClause_108 ⟨by decide, by decide⟩ ?_
        cases h
        exact aw_zret (pc := 109) rfl (by decide) dX7_readClause_109
    · rw [if_pos hc] at h
      exact aw_sel [] rfl (w_x_Rules_readClause_91 N d hd  _ _ _ h)
def x_Rules_readClause_58 (N : Nat) (x3 : Int) (w : aw_W) : Option (Int × aw_W) :=
  if x3 = 0 then
    x_Rules_readClause_72 N x3 w
  else
    aw_b2 (x_Tape_sign N w) fun r1 w1 =>
      aw_b2 (x_Rules_isComparison N r1 w1) fun r2 w2 =>
        if r2 = 0 then
          x_Rules_readClause_110 N w2
        else
          x_Rules_readClause_72 N x3 w2
theorem w_x_Rules_readClause_58 {l : Launch} {K : aw_K} (N d : Nat) (hd : 121 ≤ d) : ∀ (x3 : Int) (w : aw_W) (y : Int) (v : aw_W), x_Rules_readClause_58 N x3 w = some (y, v) → aw_AW l K MX7_readClause (d + 1) 58 [(0, .inr (.inr 11)), (1, .inr (.inr 1)), (3, .inl x3)] [] w (some (.inl y), v) := by
  intro x3 w y v h
  unfold x_Rules_readClause_58 at h
  refine aw_iload_n (pc := 58) (q := 2) dX7_readClause_58 rfl ?_
  refine aw_if_eq (pc := 59) (tgt := 72) dX7_readClause_59 (by decide) (fun hc => ?_) (fun hc => ?_)
  · rw [if_pos hc] at h
    exact aw_sel [0, 1, 2] rfl (w_x_Rules_readClause_72 N d hd  _ _ _ _ h)
  · rw [if_neg hc] at h
    refine aw_aload_n (pc := 62) (q := 1) dX7_readClause_62 rfl ?_
    obtain ⟨r1, w1, h1, h⟩ := aw_b2s h
    refine aw_callV (pc := 63) (as := []) (st := []) (st' := [.inl r1]) dX7_readClause_63 cv_RX7_56 (by decide) rfl rfl rfl rfl (Nat.le_of_ble_eq_true rfl) (w_x_Tape_sign N d (by omega) _ _ _ h1) rfl ?_
    obtain ⟨r2, w2, h2, h⟩ := aw_b2s h
    refine aw_callS (pc := 66) (as := [.inl r1]) (st := []) (st' := [.inl r2]) dX7_readClause_66 cs_RX7_64 rfl rfl (Nat.le_of_ble_eq_true rfl) (w_x_Rules_isComparison N d (by omega) _ _ _ _ h2) rfl ?_
    refine aw_if_eq (pc := 69) (tgt := 110) dX7_readClause_69 (by decide) (fun hc => ?_) (fun hc => ?_)
    · rw [if_pos hc] at h
      exact aw_sel [0] rfl (w_x_Rules_readClause_110 N d hd  _ _ _ h)
    · rw [if_neg hc] at h
      exact aw_sel [0, 1, 2] rfl (w_x_Rules_readClause_72 N d hd  _ _ _ _ h)
def x_Rules_readClause_42 (N : Nat) (s0 : Int) (w : aw_W) : Option (Int × aw_W) :=
  if s0 = 0 then
    x_Rules_readClause_58 N s0 w
  else
    aw_b2 (x_Rules_readSum N 0 w) fun r1 w1 =>
      if r1 = 0 then
        some (0, w1)
      else
        x_Rules_readClause_58 N s0 w1
theorem w_x_Rules_readClause_42 {l : Launch} {K : aw_K} (N d : Nat) (hd : 121 ≤ d) : ∀ (s0 : Int) (w : aw_W) (y : Int) (v : aw_W), x_Rules_readClause_42 N s0 w = some (y, v) → aw_AW l K MX7_readClause (d + 1) 42 [(0, .inr (.inr 11)), (1, .inr (.inr 1))] [.inl s0] w (some (.inl y), v) := by
  intro s0 w y v h
  unfold x_Rules_readClause_42 at h
  refine aw_istore_n (pc := 42) (ls' := [(3, .inl s0), (0, .inr (.inr 11)), (1, .inr (.inr 1))]) dX7_readClause_42 (by decide) rfl ?_
  refine aw_iload_n (pc := 43) (q := 0) dX7_readClause_43 rfl ?_
  refine aw_if_eq (pc := 44) (tgt := 58) dX7_readClause_44 (by decide) (fun hc => ?_) (fun hc => ?_)
  · rw [if_pos hc] at h
    exact aw_sel [1, 2, 0] rfl (w_x_Rules_readClause_58 N d hd  _ _ _ _ h)
  · rw [if_neg hc] at h
    refine aw_aload_n (pc := 47) (q := 1) dX7_readClause_47 rfl ?_
    refine aw_aload_n (pc := 48) (q := 2) dX7_readClause_48 rfl ?_
    refine aw_iconst (pc := 49) dX7_readClause_49 ⟨by decide, by decide⟩ ?_
    obtain ⟨r1, w1, h1, h⟩ := aw_b2s h
    refine aw_callV (pc := 50) (as := [.inr (.inr 1), .inl 0]) (st := []) (st' := [.inl r1]) dX7_readClause_50 cv_RX7_60 (by decide) rfl rfl rfl rfl (Nat.le_of_ble_eq_true rfl) (w_x_Rules_readSum N d (by omega) _ _ _ _ h1) rfl ?_
    refine aw_if_ne (pc := 53) (tgt := 58) dX7_readClause_53 (by decide) (fun hc => ?_) (fun hc => ?_)
    · rw [if_neg hc] at h
      exact aw_sel [1, 2, 0] rfl (w_x_Rules_readClause_58 N d hd  _ _ _ _ h)
    · rw [if_pos hc] at h
      refine aw_iconst (pc := 56) dX7_readClause_56 ⟨by decide, by decide⟩ ?_
      cases h
      exact aw_zret (pc := 57) rfl (by decide) dX7_readClause_57
def x_Rules_readClause_41 (N : Nat) (w : aw_W) : Option (Int × aw_W) :=
  x_Rules_readClause_42 N 0 w
theorem w_x_Rules_readClause_41 {l : Launch} {K : aw_K} (N d : Nat) (hd : 121 ≤ d) : ∀ (w : aw_W) (y : Int) (v : aw_W), x_Rules_readClause_41 N w = some (y, v) → aw_AW l K MX7_readClause (d + 1) 41 [(0, .inr (.inr 11)), (1, .inr (.inr 1))] [] w (some (.inl y), v) := by
  intro w y v h
  unfold x_Rules_readClause_41 at h
  refine aw_iconst (pc := 41) dX7_readClause_41 ⟨by decide, by decide⟩ ?_
  exact aw_sel [0, 1] rfl (w_x_Rules_readClause_42 N d hd  _ _ _ _ h)
def x_Rules_readClause (N : Nat) (w : aw_W) : Option (Int × aw_W) :=
  aw_b2 (x_Tape_take N 121 w) fun r1 w1 =>
    if r1 = 0 then
      x_Rules_readClause_18 N w1
    else
      aw_b2 (x_Tape_take N 58 w1) fun r2 w2 =>
        if r2 = 0 then
          x_Rules_readClause_18 N w2
        else
          aw_b2 (x_Tape_sign N w2) fun r3 w3 =>
            if r3 = 33 then
              x_Rules_readClause_41 N w3
            else
              if r3 = 40 then
                x_Rules_readClause_41 N w3
              else
                x_Rules_readClause_42 N 1 w3
theorem w_x_Rules_readClause_d {l : Launch} {K : aw_K} (N d : Nat) (hd : 121 ≤ d) : ∀ (w : aw_W) (y : Int) (v : aw_W), x_Rules_readClause N w = some (y, v) → aw_Met l K MX7_readClause (d + 1) [.inr (.inr 11), .inr (.inr 1)] w (some (.inl y), v) := by
  intro w y v h
  unfold x_Rules_readClause at h
  refine aw_enter rfl (Nat.le_of_ble_eq_true rfl) ?_
  show aw_AW l K MX7_readClause (d + 1) 0 [(0, .inr (.inr 11)), (1, .inr (.inr 1))] [] w (some (.inl y), v)
  refine aw_aload_n (pc := 0) (q := 1) dX7_readClause_0 rfl ?_
  refine aw_bipush (pc := 1) dX7_readClause_1 (by decide) ⟨by decide, by decide⟩ ?_
  obtain ⟨r1, w1, h1, h⟩ := aw_b2s h
  refine aw_callV (pc := 3) (as := [.inl 121]) (st := []) (st' := [.inl r1]) dX7_readClause_3 cv_RX7_52 (by decide) rfl rfl rfl rfl (Nat.le_of_ble_eq_true rfl) (w_x_Tape_take N d (by omega) _ _ _ _ h1) rfl ?_
  refine aw_if_eq (pc := 6) (tgt := 18) dX7_readClause_6 (by decide) (fun hc => ?_) (fun hc => ?_)
  · rw [if_pos hc] at h
    exact aw_sel [] rfl (w_x_Rules_readClause_18 N d hd  _ _ _ h)
  · rw [if_neg hc] at h
    refine aw_aload_n (pc := 9) (q := 1) dX7_readClause_9 rfl ?_
    refine aw_bipush (pc := 10) dX7_readClause_10 (by decide) ⟨by decide, by decide⟩ ?_
    obtain ⟨r2, w2, h2, h⟩ := aw_b2s h
    refine aw_callV (pc := 12) (as := [.inl 58]) (st := []) (st' := [.inl r2]) dX7_readClause_12 cv_RX7_52 (by decide) rfl rfl rfl rfl (Nat.le_of_ble_eq_true rfl) (w_x_Tape_take N d (by omega) _ _ _ _ h2) rfl ?_
    refine aw_if_ne (pc := 15) (tgt := 20) dX7_readClause_15 (by decide) (fun hc => ?_) (fun hc => ?_)
    · rw [if_neg hc] at h
      refine aw_aload_n (pc := 20) (q := 1) dX7_readClause_20 rfl ?_
      obtain ⟨r3, w3, h3, h⟩ := aw_b2s h
      refine aw_callV (pc := 21) (as := []) (st := []) (st' := [.inl r3]) dX7_readClause_21 cv_RX7_56 (by decide) rfl rfl rfl rfl (Nat.le_of_ble_eq_true rfl) (w_x_Tape_sign N d (by omega) _ _ _ h3) rfl ?_
      refine aw_istore_n (pc := 24) (ls' := [(2, .inl r3), (0, .inr (.inr 11)), (1, .inr (.inr 1))]) dX7_readClause_24 (by decide) rfl ?_
      refine aw_iload_n (pc := 25) (q := 0) dX7_readClause_25 rfl ?_
      refine aw_bipush (pc := 26) dX7_readClause_26 (by decide) ⟨by decide, by decide⟩ ?_
      refine aw_icmp_eq (pc := 28) (tgt := 41) dX7_readClause_28 (by decide) (fun hc => ?_) (fun hc => ?_)
      · rw [if_pos hc] at h
        exact aw_sel [1, 2] rfl (w_x_Rules_readClause_41 N d hd  _ _ _ h)
      · rw [if_neg hc] at h
        refine aw_iload_n (pc := 31) (q := 0) dX7_readClause_31 rfl ?_
        refine aw_bipush (pc := 32) dX7_readClause_32 (by decide) ⟨by decide, by decide⟩ ?_
        refine aw_icmp_eq (pc := 34) (tgt := 41) dX7_readClause_34 (by decide) (fun hc => ?_) (fun hc => ?_)
        · rw [if_pos hc] at h
          exact aw_sel [1, 2] rfl (w_x_Rules_readClause_41 N d hd  _ _ _ h)
        · rw [if_neg hc] at h
          refine aw_iconst (pc := 37) dX7_readClause_37 ⟨by decide, by decide⟩ ?_
          refine aw_goto (pc := 38) (tgt := 42) dX7_readClause_38 (by decide) ?_
          exact aw_sel [1, 2] rfl (w_x_Rules_readClause_42 N d hd  _ _ _ _ h)
    · rw [if_pos hc] at h
      exact aw_sel [] rfl (w_x_Rules_readClause_18 N d hd  _ _ _ h)
theorem w_x_Rules_readClause {l : Launch} {K : aw_K} (N d : Nat) (hd : 122 ≤ d) : ∀ (w : aw_W) (y : Int) (v : aw_W), x_Rules_readClause N w = some (y, v) → aw_Met l K MX7_readClause (d) [.inr (.inr 11), .inr (.inr 1)] w (some (.inl y), v) := by
  obtain ⟨e, rfl⟩ : ∃ e, d = e + 1 := ⟨d - 1, by omega⟩
  exact w_x_Rules_readClause_d N e (by omega)
theorem dX7_read_0 : decode cX7_read 0 = .ok (.aload_n 0, 1) := by decide +kernel
theorem dX7_read_1 : decode cX7_read 1 = .ok (.iconst 0, 1) := by decide +kernel
theorem dX7_read_2 : decode cX7_read 2 = .ok (.putfield 34, 3) := by decide +kernel
theorem dX7_read_5 : decode cX7_read 5 = .ok (.aload_n 1, 1) := by decide +kernel
theorem dX7_read_6 : decode cX7_read 6 = .ok (.iconst 0, 1) := by decide +kernel
theorem dX7_read_7 : decode cX7_read 7 = .ok (.putfield 43, 3) := by decide +kernel
theorem dX7_read_10 : decode cX7_read 10 = .ok (.iconst 1, 1) := by decide +kernel
theorem dX7_read_11 : decode cX7_read 11 = .ok (.istore_n 2, 1) := by decide +kernel
theorem dX7_read_12 : decode cX7_read 12 = .ok (.iconst 0, 1) := by decide +kernel
theorem dX7_read_13 : decode cX7_read 13 = .ok (.istore_n 3, 1) := by decide +kernel
theorem dX7_read_14 : decode cX7_read 14 = .ok (.iload_n 2, 1) := by decide +kernel
theorem dX7_read_15 : decode cX7_read 15 = .ok (.ifCond .eq 36, 3) := by decide +kernel
theorem dX7_read_18 : decode cX7_read 18 = .ok (.iload_n 3, 1) := by decide +kernel
theorem dX7_read_19 : decode cX7_read 19 = .ok (.sipush 160, 3) := by decide +kernel
theorem dX7_read_22 : decode cX7_read 22 = .ok (.if_icmp .ge 29, 3) := by decide +kernel
theorem dX7_read_25 : decode cX7_read 25 = .ok (.aload_n 0, 1) := by decide +kernel
theorem dX7_read_26 : decode cX7_read 26 = .ok (.aload_n 1, 1) := by decide +kernel
theorem dX7_read_27 : decode cX7_read 27 = .ok (.invokevirtual 48, 3) := by decide +kernel
theorem dX7_read_30 : decode cX7_read 30 = .ok (.ifCond .ne 8, 3) := by decide +kernel
theorem dX7_read_33 : decode cX7_read 33 = .ok (.aload_n 1, 1) := by decide +kernel
theorem dX7_read_34 : decode cX7_read 34 = .ok (.getfield 43, 3) := by decide +kernel
theorem dX7_read_37 : decode cX7_read 37 = .ok (.ireturn, 1) := by decide +kernel
theorem dX7_read_38 : decode cX7_read 38 = .ok (.aload_n 1, 1) := by decide +kernel
theorem dX7_read_39 : decode cX7_read 39 = .ok (.bipush 59, 2) := by decide +kernel
theorem dX7_read_41 : decode cX7_read 41 = .ok (.invokevirtual 52, 3) := by decide +kernel
theorem dX7_read_44 : decode cX7_read 44 = .ok (.istore_n 2, 1) := by decide +kernel
theorem dX7_read_45 : decode cX7_read 45 = .ok (.iinc 3 1, 3) := by decide +kernel
theorem dX7_read_48 : decode cX7_read 48 = .ok (.goto (-34), 3) := by decide +kernel
theorem dX7_read_51 : decode cX7_read 51 = .ok (.aload_n 1, 1) := by decide +kernel
theorem dX7_read_52 : decode cX7_read 52 = .ok (.invokevirtual 56, 3) := by decide +kernel
theorem dX7_read_55 : decode cX7_read 55 = .ok (.ifCond .eq 10, 3) := by decide +kernel
theorem dX7_read_58 : decode cX7_read 58 = .ok (.aload_n 1, 1) := by decide +kernel
theorem dX7_read_59 : decode cX7_read 59 = .ok (.getfield 43, 3) := by decide +kernel
theorem dX7_read_62 : decode cX7_read 62 = .ok (.goto 4, 3) := by decide +kernel
theorem dX7_read_65 : decode cX7_read 65 = .ok (.iconst (-1), 1) := by decide +kernel
theorem dX7_read_66 : decode cX7_read 66 = .ok (.ireturn, 1) := by decide +kernel
def x_Rules_read_66 (N : Nat) (s0 : Int) (w : aw_W) : Option (Int × aw_W) :=
  some (s0, w)
theorem w_x_Rules_read_66 {l : Launch} {K : aw_K} (N d : Nat) (hd : 122 ≤ d) : ∀ (s0 : Int) (w : aw_W) (y : Int) (v : aw_W), x_Rules_read_66 N s0 w = some (y, v) → aw_AW l K MX7_read (d + 1) 66 [] [.inl s0] w (some (.inl y), v) := by
  intro s0 w y v h
  unfold x_Rules_read_66 at h
  cases h
  exact aw_iret (pc := 66) rfl dX7_read_66
def x_Rules_read_51 (N : Nat) (w : aw_W) : Option (Int × aw_W) :=
  aw_b2 (x_Tape_sign N w) fun r1 w1 =>
    if r1 = 0 then
      x_Rules_read_66 N (-1) w1
    else
      x_Rules_read_66 N (w1 1 2) w1
theorem w_x_Rules_read_51 {l : Launch} {K : aw_K} (N d : Nat) (hd : 122 ≤ d) : ∀ (w : aw_W) (y : Int) (v : aw_W), x_Rules_read_51 N w = some (y, v) → aw_AW l K MX7_read (d + 1) 51 [(1, .inr (.inr 1))] [] w (some (.inl y), v) := by
  intro w y v h
  unfold x_Rules_read_51 at h
  refine aw_aload_n (pc := 51) (q := 0) dX7_read_51 rfl ?_
  obtain ⟨r1, w1, h1, h⟩ := aw_b2s h
  refine aw_callV (pc := 52) (as := []) (st := []) (st' := [.inl r1]) dX7_read_52 cv_RX7_56 (by decide) rfl rfl rfl rfl (Nat.le_of_ble_eq_true rfl) (w_x_Tape_sign N d (by omega) _ _ _ h1) rfl ?_
  refine aw_if_eq (pc := 55) (tgt := 65) dX7_read_55 (by decide) (fun hc => ?_) (fun hc => ?_)
  · rw [if_pos hc] at h
    refine aw_iconst (pc := 65) dX7_read_65 ⟨by decide, by decide⟩ ?_
    exact aw_sel [] rfl (w_x_Rules_read_66 N d hd  _ _ _ _ h)
  · rw [if_neg hc] at h
    refine aw_aload_n (pc := 58) (q := 0) dX7_read_58 rfl ?_
    refine aw_getf (pc := 59) (v := .inl (w1 1 2)) dX7_read_59 fl_RX7_43 (by decide) rfl rfl rfl ?_
    refine aw_goto (pc := 62) (tgt := 66) dX7_read_62 (by decide) ?_
    exact aw_sel [] rfl (w_x_Rules_read_66 N d hd  _ _ _ _ h)
def x_Rules_read_33 (N : Nat) (w : aw_W) : Option (Int × aw_W) :=
  some (w 1 2, w)
theorem w_x_Rules_read_33 {l : Launch} {K : aw_K} (N d : Nat) (hd : 122 ≤ d) : ∀ (w : aw_W) (y : Int) (v : aw_W), x_Rules_read_33 N w = some (y, v) → aw_AW l K MX7_read (d + 1) 33 [(1, .inr (.inr 1))] [] w (some (.inl y), v) := by
  intro w y v h
  unfold x_Rules_read_33 at h
  refine aw_aload_n (pc := 33) (q := 0) dX7_read_33 rfl ?_
  refine aw_getf (pc := 34) (v := .inl (w 1 2)) dX7_read_34 fl_RX7_43 (by decide) rfl rfl rfl ?_
  cases h
  exact aw_iret (pc := 37) rfl dX7_read_37
def x_Rules_read_14 (N : Nat) : Nat → Int → Int → aw_W → Option (Int × aw_W)
  | 0, _, _, _ => none
  | n + 1, x2, x3, w =>
    if x2 = 0 then
      x_Rules_read_51 N w
    else
      if 160 ≤ x3 then
        x_Rules_read_51 N w
      else
        aw_b2 (x_Rules_readClause N w) fun r1 w1 =>
          if r1 = 0 then
            x_Rules_read_33 N w1
          else
            aw_b2 (x_Tape_take N 59 w1) fun r2 w2 =>
              x_Rules_read_14 N n r2 (aw_w (x3 + 1)) w2
theorem w_x_Rules_read_14 {l : Launch} {K : aw_K} (N d : Nat) (hd : 122 ≤ d) : ∀ (n : Nat) (x2 x3 : Int) (w : aw_W) (y : Int) (v : aw_W), x_Rules_read_14 N n x2 x3 w = some (y, v) → aw_AW l K MX7_read (d + 1) 14 [(0, .inr (.inr 11)), (1, .inr (.inr 1)), (2, .inl x2), (3, .inl x3)] [] w (some (.inl y), v) := by
  intro n
  induction n with
  | zero => intro x2 x3 w y v h; rw [x_Rules_read_14] at h; cases h
  | succ n ih =>
    intro x2 x3 w y v h
    rw [x_Rules_read_14] at h
    refine aw_iload_n (pc := 14) (q := 2) dX7_read_14 rfl ?_
    refine aw_if_eq (pc := 15) (tgt := 51) dX7_read_15 (by decide) (fun hc => ?_) (fun hc => ?_)
    · rw [if_pos hc] at h
      exact aw_sel [1] rfl (w_x_Rules_read_51 N d hd  _ _ _ h)
    · rw [if_neg hc] at h
      refine aw_iload_n (pc := 18) (q := 3) dX7_read_18 rfl ?_
      refine aw_sipush (pc := 19) dX7_read_19 (by decide) ⟨by decide, by decide⟩ ?_
      refine aw_icmp_ge (pc := 22) (tgt := 51) dX7_read_22 (by decide) (fun hc => ?_) (fun hc => ?_)
      · rw [if_pos hc] at h
        exact aw_sel [1] rfl (w_x_Rules_read_51 N d hd  _ _ _ h)
      · rw [if_neg hc] at h
        refine aw_aload_n (pc := 25) (q := 0) dX7_read_25 rfl ?_
        refine aw_aload_n (pc := 26) (q := 1) dX7_read_26 rfl ?_
        obtain ⟨r1, w1, h1, h⟩ := aw_b2s h
        refine aw_callV (pc := 27) (as := [.inr (.inr 1)]) (st := []) (st' := [.inl r1]) dX7_read_27 cv_RX7_48 (by decide) rfl rfl rfl rfl (Nat.le_of_ble_eq_true rfl) (w_x_Rules_readClause N d (by omega) _ _ _ h1) rfl ?_
        refine aw_if_ne (pc := 30) (tgt := 38) dX7_read_30 (by decide) (fun hc => ?_) (fun hc => ?_)
        · rw [if_neg hc] at h
          refine aw_aload_n (pc := 38) (q := 1) dX7_read_38 rfl ?_
          refine aw_bipush (pc := 39) dX7_read_39 (by decide) ⟨by decide, by decide⟩ ?_
          obtain ⟨r2, w2, h2, h⟩ := aw_b2s h
          refine aw_callV (pc := 41) (as := [.inl 59]) (st := []) (st' := [.inl r2]) dX7_read_41 cv_RX7_52 (by decide) rfl rfl rfl rfl (Nat.le_of_ble_eq_true rfl) (w_x_Tape_take N d (by omega) _ _ _ _ h2) rfl ?_
          refine aw_istore_n (pc := 44) (ls' := [(2, .inl r2), (0, .inr (.inr 11)), (1, .inr (.inr 1)), (3, .inl x3)]) dX7_read_44 (by decide) rfl ?_
          refine aw_iinc (pc := 45) (q := 3) (ls' := [(3, .inl (aw_w (x3 + 1))), (2, .inl r2), (0, .inr (.inr 11)), (1, .inr (.inr 1))]) dX7_read_45 rfl (by decide) rfl ?_
          refine aw_goto (pc := 48) (tgt := 14) dX7_read_48 (by decide) ?_
          exact aw_sel [2, 3, 1, 0] rfl (ih _ _ _ _ _ h)
        · rw [if_pos hc] at h
          exact aw_sel [1] rfl (w_x_Rules_read_33 N d hd  _ _ _ h)
def x_Rules_read (N : Nat) (w : aw_W) : Option (Int × aw_W) :=
  x_Rules_read_14 N N 1 0 (aw_up (aw_up w 11 5 0) 1 2 0)
theorem w_x_Rules_read_d {l : Launch} {K : aw_K} (N d : Nat) (hd : 122 ≤ d) : ∀ (w : aw_W) (y : Int) (v : aw_W), x_Rules_read N w = some (y, v) → aw_Met l K MX7_read (d + 1) [.inr (.inr 11), .inr (.inr 1)] w (some (.inl y), v) := by
  intro w y v h
  unfold x_Rules_read at h
  refine aw_enter rfl (Nat.le_of_ble_eq_true rfl) ?_
  show aw_AW l K MX7_read (d + 1) 0 [(0, .inr (.inr 11)), (1, .inr (.inr 1))] [] w (some (.inl y), v)
  refine aw_aload_n (pc := 0) (q := 0) dX7_read_0 rfl ?_
  refine aw_iconst (pc := 1) dX7_read_1 ⟨by decide, by decide⟩ ?_
  refine aw_puti (pc := 2) dX7_read_2 fp_RX7_34 (by decide) rfl rfl ?_
  refine aw_aload_n (pc := 5) (q := 1) dX7_read_5 rfl ?_
  refine aw_iconst (pc := 6) dX7_read_6 ⟨by decide, by decide⟩ ?_
  refine aw_puti (pc := 7) dX7_read_7 fp_RX7_43 (by decide) rfl rfl ?_
  refine aw_iconst (pc := 10) dX7_read_10 ⟨by decide, by decide⟩ ?_
  refine aw_istore_n (pc := 11) (ls' := [(2, .inl 1), (0, .inr (.inr 11)), (1, .inr (.inr 1))]) dX7_read_11 (by decide) rfl ?_
  refine aw_iconst (pc := 12) dX7_read_12 ⟨by decide, by decide⟩ ?_
  refine aw_istore_n (pc := 13) (ls' := [(3, .inl 0), (2, .inl 1), (0, .inr (.inr 11)), (1, .inr (.inr 1))]) dX7_read_13 (by decide) rfl ?_
  exact aw_sel [2, 3, 1, 0] rfl (w_x_Rules_read_14 N d hd  N _ _ _ _ _ h)
theorem w_x_Rules_read {l : Launch} {K : aw_K} (N d : Nat) (hd : 123 ≤ d) : ∀ (w : aw_W) (y : Int) (v : aw_W), x_Rules_read N w = some (y, v) → aw_Met l K MX7_read (d) [.inr (.inr 11), .inr (.inr 1)] w (some (.inl y), v) := by
  obtain ⟨e, rfl⟩ : ∃ e, d = e + 1 := ⟨d - 1, by omega⟩
  exact w_x_Rules_read_d N e (by omega)
def x_indexIn_204_23 (N : Nat) (w : aw_W) : Option (Int × aw_W) :=
  some ((-1), w)
theorem w_x_indexIn_204_23 {l : Launch} {K : aw_K} (N d : Nat) : ∀ (w : aw_W) (y : Int) (v : aw_W), x_indexIn_204_23 N w = some (y, v) → aw_AW l K MX11_indexIn (d) 23 [] [] w (some (.inl y), v) := by
  intro w y v h
  unfold x_indexIn_204_23 at h
  refine aw_iconst (pc := 23) dX11_indexIn_23 ⟨by decide, by decide⟩ ?_
  cases h
  exact aw_iret (pc := 24) rfl dX11_indexIn_24
def x_indexIn_204_15 (N : Nat) (x2 : Int) (w : aw_W) : Option (Int × aw_W) :=
  some (x2, w)
theorem w_x_indexIn_204_15 {l : Launch} {K : aw_K} (N d : Nat) : ∀ (x2 : Int) (w : aw_W) (y : Int) (v : aw_W), x_indexIn_204_15 N x2 w = some (y, v) → aw_AW l K MX11_indexIn (d) 15 [(2, .inl x2)] [] w (some (.inl y), v) := by
  intro x2 w y v h
  unfold x_indexIn_204_15 at h
  refine aw_iload_n (pc := 15) (q := 0) dX11_indexIn_15 rfl ?_
  cases h
  exact aw_iret (pc := 16) rfl dX11_indexIn_16
def x_indexIn_204_2 (N : Nat) : Nat → Int → Int → aw_W → Option (Int × aw_W)
  | 0, _, _, _ => none
  | n + 1, x1, x2, w =>
    if 5 ≤ x2 then
      x_indexIn_204_23 N w
    else
      if 0 ≤ x2 ∧ x2 < 5 then
        if (List.getD [114, 116, 113, 102, 109] (x2.toNat) 0 : Int) = x1 then
          x_indexIn_204_15 N x2 w
        else
          x_indexIn_204_2 N n x1 (aw_w (x2 + 1)) w
      else none
theorem w_x_indexIn_204_2 {l : Launch} {K : aw_K} (N d : Nat) : ∀ (n : Nat) (x1 x2 : Int) (w : aw_W) (y : Int) (v : aw_W), x_indexIn_204_2 N n x1 x2 w = some (y, v) → aw_AW l K MX11_indexIn (d) 2 [(0, .inr (.inr 204)), (1, .inl x1), (2, .inl x2)] [] w (some (.inl y), v) := by
  intro n
  induction n with
  | zero => intro x1 x2 w y v h; rw [x_indexIn_204_2] at h; cases h
  | succ n ih =>
    intro x1 x2 w y v h
    rw [x_indexIn_204_2] at h
    refine aw_iload_n (pc := 2) (q := 2) dX11_indexIn_2 rfl ?_
    refine aw_aload_n (pc := 3) (q := 0) dX11_indexIn_3 rfl ?_
    refine aw_slen (pc := 4) (j := 4) (n := 5) dX11_indexIn_4 rfl rfl ⟨by decide, by decide⟩ ?_
    refine aw_icmp_ge (pc := 5) (tgt := 23) dX11_indexIn_5 (by decide) (fun hc => ?_) (fun hc => ?_)
    · rw [if_pos hc] at h
      exact aw_sel [] rfl (w_x_indexIn_204_23 N d  _ _ _ h)
    · rw [if_neg hc] at h
      refine aw_aload_n (pc := 8) (q := 0) dX11_indexIn_8 rfl ?_
      refine aw_iload_n (pc := 9) (q := 2) dX11_indexIn_9 rfl ?_
      obtain ⟨hb, h⟩ := aw_cks h
      refine aw_saldv (pc := 10) (j := 4) (v := (List.getD [114, 116, 113, 102, 109] (x2.toNat) 0 : Int)) dX11_indexIn_10 rfl hb.1 hb.2 (aw_getD_I (by decide) _) rfl ?_
      refine aw_iload_n (pc := 11) (q := 1) dX11_indexIn_11 rfl ?_
      refine aw_icmp_ne (pc := 12) (tgt := 17) dX11_indexIn_12 (by decide) (fun hc => ?_) (fun hc => ?_)
      · rw [if_neg hc] at h
        refine aw_iinc (pc := 17) (q := 2) (ls' := [(2, .inl (aw_w (x2 + 1))), (0, .inr (.inr 204)), (1, .inl x1)]) dX11_indexIn_17 rfl (by decide) rfl ?_
        refine aw_goto (pc := 20) (tgt := 2) dX11_indexIn_20 (by decide) ?_
        exact aw_sel [1, 2, 0] rfl (ih _ _ _ _ _ h)
      · rw [if_pos hc] at h
        exact aw_sel [2] rfl (w_x_indexIn_204_15 N d  _ _ _ _ h)
def x_indexIn_204 (N : Nat) (x1 : Int) (w : aw_W) : Option (Int × aw_W) :=
  x_indexIn_204_2 N N x1 0 w
theorem w_x_indexIn_204 {l : Launch} {K : aw_K} (N d : Nat) (hd : 0 ≤ d) : ∀ (x1 : Int) (w : aw_W) (y : Int) (v : aw_W), x_indexIn_204 N x1 w = some (y, v) → aw_Met l K MX11_indexIn (d) [.inr (.inr 204), .inl x1] w (some (.inl y), v) := by
  intro x1 w y v h
  unfold x_indexIn_204 at h
  refine aw_enter rfl (Nat.le_of_ble_eq_true rfl) ?_
  show aw_AW l K MX11_indexIn (d) 0 [(0, .inr (.inr 204)), (1, .inl x1)] [] w (some (.inl y), v)
  refine aw_iconst (pc := 0) dX11_indexIn_0 ⟨by decide, by decide⟩ ?_
  refine aw_istore_n (pc := 1) (ls' := [(2, .inl 0), (0, .inr (.inr 204)), (1, .inl x1)]) dX11_indexIn_1 (by decide) rfl ?_
  exact aw_sel [1, 2, 0] rfl (w_x_indexIn_204_2 N d  N _ _ _ _ _ h)
theorem dX1_readItems_0 : decode cX1_readItems 0 = .ok (.iconst 0, 1) := by decide +kernel
theorem dX1_readItems_1 : decode cX1_readItems 1 = .ok (.istore 6, 2) := by decide +kernel
theorem dX1_readItems_3 : decode cX1_readItems 3 = .ok (.iconst 0, 1) := by decide +kernel
theorem dX1_readItems_4 : decode cX1_readItems 4 = .ok (.istore 7, 2) := by decide +kernel
theorem dX1_readItems_6 : decode cX1_readItems 6 = .ok (.iload 7, 2) := by decide +kernel
theorem dX1_readItems_8 : decode cX1_readItems 8 = .ok (.aload_n 1, 1) := by decide +kernel
theorem dX1_readItems_9 : decode cX1_readItems 9 = .ok (.arraylength, 1) := by decide +kernel
theorem dX1_readItems_10 : decode cX1_readItems 10 = .ok (.if_icmp .gt 118, 3) := by decide +kernel
theorem dX1_readItems_13 : decode cX1_readItems 13 = .ok (.aload_n 1, 1) := by decide +kernel
theorem dX1_readItems_14 : decode cX1_readItems 14 = .ok (.aload_n 0, 1) := by decide +kernel
theorem dX1_readItems_15 : decode cX1_readItems 15 = .ok (.invokevirtual 64, 3) := by decide +kernel
theorem dX1_readItems_18 : decode cX1_readItems 18 = .ok (.invokestatic 92, 3) := by decide +kernel
theorem dX1_readItems_21 : decode cX1_readItems 21 = .ok (.istore 8, 2) := by decide +kernel
theorem dX1_readItems_23 : decode cX1_readItems 23 = .ok (.iload 8, 2) := by decide +kernel
theorem dX1_readItems_25 : decode cX1_readItems 25 = .ok (.iconst (-1), 1) := by decide +kernel
theorem dX1_readItems_26 : decode cX1_readItems 26 = .ok (.if_icmp .ne 5, 3) := by decide +kernel
theorem dX1_readItems_29 : decode cX1_readItems 29 = .ok (.iconst 1, 1) := by decide +kernel
theorem dX1_readItems_30 : decode cX1_readItems 30 = .ok (.ireturn, 1) := by decide +kernel
theorem dX1_readItems_31 : decode cX1_readItems 31 = .ok (.iload 6, 2) := by decide +kernel
theorem dX1_readItems_33 : decode cX1_readItems 33 = .ok (.iload 8, 2) := by decide +kernel
theorem dX1_readItems_35 : decode cX1_readItems 35 = .ok (.ishr, 1) := by decide +kernel
theorem dX1_readItems_36 : decode cX1_readItems 36 = .ok (.iconst 1, 1) := by decide +kernel
theorem dX1_readItems_37 : decode cX1_readItems 37 = .ok (.iand, 1) := by decide +kernel
theorem dX1_readItems_38 : decode cX1_readItems 38 = .ok (.ifCond .eq 5, 3) := by decide +kernel
theorem dX1_readItems_41 : decode cX1_readItems 41 = .ok (.iconst 0, 1) := by decide +kernel
theorem dX1_readItems_42 : decode cX1_readItems 42 = .ok (.ireturn, 1) := by decide +kernel
theorem dX1_readItems_43 : decode cX1_readItems 43 = .ok (.iload 6, 2) := by decide +kernel
theorem dX1_readItems_45 : decode cX1_readItems 45 = .ok (.iconst 1, 1) := by decide +kernel
theorem dX1_readItems_46 : decode cX1_readItems 46 = .ok (.iload 8, 2) := by decide +kernel
theorem dX1_readItems_48 : decode cX1_readItems 48 = .ok (.ishl, 1) := by decide +kernel
theorem dX1_readItems_49 : decode cX1_readItems 49 = .ok (.ior, 1) := by decide +kernel
theorem dX1_readItems_50 : decode cX1_readItems 50 = .ok (.istore 6, 2) := by decide +kernel
theorem dX1_readItems_52 : decode cX1_readItems 52 = .ok (.aload_n 0, 1) := by decide +kernel
theorem dX1_readItems_53 : decode cX1_readItems 53 = .ok (.dup, 1) := by decide +kernel
theorem dX1_readItems_54 : decode cX1_readItems 54 = .ok (.getfield 52, 3) := by decide +kernel
theorem dX1_readItems_57 : decode cX1_readItems 57 = .ok (.iconst 1, 1) := by decide +kernel
theorem dX1_readItems_58 : decode cX1_readItems 58 = .ok (.iadd, 1) := by decide +kernel
theorem dX1_readItems_59 : decode cX1_readItems 59 = .ok (.putfield 52, 3) := by decide +kernel
theorem dX1_readItems_62 : decode cX1_readItems 62 = .ok (.aload_n 0, 1) := by decide +kernel
theorem dX1_readItems_63 : decode cX1_readItems 63 = .ok (.invokevirtual 64, 3) := by decide +kernel
theorem dX1_readItems_66 : decode cX1_readItems 66 = .ok (.pop, 1) := by decide +kernel
theorem dX1_readItems_67 : decode cX1_readItems 67 = .ok (.aload_n 0, 1) := by decide +kernel
theorem dX1_readItems_68 : decode cX1_readItems 68 = .ok (.iconst 2, 1) := by decide +kernel
theorem dX1_readItems_69 : decode cX1_readItems 69 = .ok (.invokevirtual 96, 3) := by decide +kernel
theorem dX1_readItems_72 : decode cX1_readItems 72 = .ok (.istore 9, 2) := by decide +kernel
theorem dX1_readItems_74 : decode cX1_readItems 74 = .ok (.iload 9, 2) := by decide +kernel
theorem dX1_readItems_76 : decode cX1_readItems 76 = .ok (.iconst (-1), 1) := by decide +kernel
theorem dX1_readItems_77 : decode cX1_readItems 77 = .ok (.if_icmp .ne 5, 3) := by decide +kernel
theorem dX1_readItems_80 : decode cX1_readItems 80 = .ok (.iconst 0, 1) := by decide +kernel
theorem dX1_readItems_81 : decode cX1_readItems 81 = .ok (.ireturn, 1) := by decide +kernel
theorem dX1_readItems_82 : decode cX1_readItems 82 = .ok (.iload 9, 2) := by decide +kernel
theorem dX1_readItems_84 : decode cX1_readItems 84 = .ok (.aload_n 2, 1) := by decide +kernel
theorem dX1_readItems_85 : decode cX1_readItems 85 = .ok (.iload 8, 2) := by decide +kernel
theorem dX1_readItems_87 : decode cX1_readItems 87 = .ok (.iaload, 1) := by decide +kernel
theorem dX1_readItems_88 : decode cX1_readItems 88 = .ok (.if_icmp .lt 12, 3) := by decide +kernel
theorem dX1_readItems_91 : decode cX1_readItems 91 = .ok (.iload 9, 2) := by decide +kernel
theorem dX1_readItems_93 : decode cX1_readItems 93 = .ok (.aload_n 3, 1) := by decide +kernel
theorem dX1_readItems_94 : decode cX1_readItems 94 = .ok (.iload 8, 2) := by decide +kernel
theorem dX1_readItems_96 : decode cX1_readItems 96 = .ok (.iaload, 1) := by decide +kernel
theorem dX1_readItems_97 : decode cX1_readItems 97 = .ok (.if_icmp .le 15, 3) := by decide +kernel
theorem dX1_readItems_100 : decode cX1_readItems 100 = .ok (.aload_n 0, 1) := by decide +kernel
theorem dX1_readItems_101 : decode cX1_readItems 101 = .ok (.dup, 1) := by decide +kernel
theorem dX1_readItems_102 : decode cX1_readItems 102 = .ok (.getfield 52, 3) := by decide +kernel
theorem dX1_readItems_105 : decode cX1_readItems 105 = .ok (.iconst 1, 1) := by decide +kernel
theorem dX1_readItems_106 : decode cX1_readItems 106 = .ok (.isub, 1) := by decide +kernel
theorem dX1_readItems_107 : decode cX1_readItems 107 = .ok (.putfield 52, 3) := by decide +kernel
theorem dX1_readItems_110 : decode cX1_readItems 110 = .ok (.iconst 0, 1) := by decide +kernel
theorem dX1_readItems_111 : decode cX1_readItems 111 = .ok (.ireturn, 1) := by decide +kernel
theorem dX1_readItems_112 : decode cX1_readItems 112 = .ok (.aload 4, 2) := by decide +kernel
theorem dX1_readItems_114 : decode cX1_readItems 114 = .ok (.iload 5, 2) := by decide +kernel
theorem dX1_readItems_116 : decode cX1_readItems 116 = .ok (.iload 8, 2) := by decide +kernel
theorem dX1_readItems_118 : decode cX1_readItems 118 = .ok (.iadd, 1) := by decide +kernel
theorem dX1_readItems_119 : decode cX1_readItems 119 = .ok (.iload 9, 2) := by decide +kernel
theorem dX1_readItems_121 : decode cX1_readItems 121 = .ok (.iastore, 1) := by decide +kernel
theorem dX1_readItems_122 : decode cX1_readItems 122 = .ok (.iinc 7 1, 3) := by decide +kernel
theorem dX1_readItems_125 : decode cX1_readItems 125 = .ok (.goto (-119), 3) := by decide +kernel
theorem dX1_readItems_128 : decode cX1_readItems 128 = .ok (.iconst 1, 1) := by decide +kernel
theorem dX1_readItems_129 : decode cX1_readItems 129 = .ok (.ireturn, 1) := by decide +kernel
def x_Land_readItems_128 (N : Nat) (w : aw_W) : Option (Int × aw_W) :=
  some (1, w)
theorem w_x_Land_readItems_128 {l : Launch} {K : aw_K} (N d : Nat) (hd : 0 ≤ d) : ∀ (w : aw_W) (y : Int) (v : aw_W), x_Land_readItems_128 N w = some (y, v) → aw_AW l K MX1_readItems (d + 1) 128 [] [] w (some (.inl y), v) := by
  intro w y v h
  unfold x_Land_readItems_128 at h
  refine aw_iconst (pc := 128) dX1_readItems_128 ⟨by decide, by decide⟩ ?_
  cases h
  exact aw_zret (pc := 129) rfl (by decide) dX1_readItems_129
def x_Land_readItems_100 (N : Nat) (w : aw_W) : Option (Int × aw_W) :=
  some (0, (aw_up w 1 2 (aw_w ((w 1 2) - 1))))
theorem w_x_Land_readItems_100 {l : Launch} {K : aw_K} (N d : Nat) (hd : 0 ≤ d) : ∀ (w : aw_W) (y : Int) (v : aw_W), x_Land_readItems_100 N w = some (y, v) → aw_AW l K MX1_readItems (d + 1) 100 [(0, .inr (.inr 1))] [] w (some (.inl y), v) := by
  intro w y v h
  unfold x_Land_readItems_100 at h
  refine aw_aload_n (pc := 100) (q := 0) dX1_readItems_100 rfl ?_
  refine aw_dup (pc := 101) dX1_readItems_101 rfl ?_
  refine aw_getf (pc := 102) (v := .inl (w 1 2)) dX1_readItems_102 fl_RX1_52 (by decide) rfl rfl rfl ?_
  refine aw_iconst (pc := 105) dX1_readItems_105 ⟨by decide, by decide⟩ ?_
  refine aw_isub (pc := 106) dX1_readItems_106 ?_
  refine aw_puti (pc := 107) dX1_readItems_107 fp_RX1_52 (by decide) rfl rfl ?_
  refine aw_iconst (pc := 110) dX1_readItems_110 ⟨by decide, by decide⟩ ?_
  cases h
  exact aw_zret (pc := 111) rfl (by decide) dX1_readItems_111
def x_Land_readItems_80 (N : Nat) (w : aw_W) : Option (Int × aw_W) :=
  some (0, w)
theorem w_x_Land_readItems_80 {l : Launch} {K : aw_K} (N d : Nat) (hd : 0 ≤ d) : ∀ (w : aw_W) (y : Int) (v : aw_W), x_Land_readItems_80 N w = some (y, v) → aw_AW l K MX1_readItems (d + 1) 80 [] [] w (some (.inl y), v) := by
  intro w y v h
  unfold x_Land_readItems_80 at h
  refine aw_iconst (pc := 80) dX1_readItems_80 ⟨by decide, by decide⟩ ?_
  cases h
  exact aw_zret (pc := 81) rfl (by decide) dX1_readItems_81
def x_Land_readItems_41 (N : Nat) (w : aw_W) : Option (Int × aw_W) :=
  some (0, w)
theorem w_x_Land_readItems_41 {l : Launch} {K : aw_K} (N d : Nat) (hd : 0 ≤ d) : ∀ (w : aw_W) (y : Int) (v : aw_W), x_Land_readItems_41 N w = some (y, v) → aw_AW l K MX1_readItems (d + 1) 41 [] [] w (some (.inl y), v) := by
  intro w y v h
  unfold x_Land_readItems_41 at h
  refine aw_iconst (pc := 41) dX1_readItems_41 ⟨by decide, by decide⟩ ?_
  cases h
  exact aw_zret (pc := 42) rfl (by decide) dX1_readItems_42
def x_Land_readItems_29 (N : Nat) (w : aw_W) : Option (Int × aw_W) :=
  some (1, w)
theorem w_x_Land_readItems_29 {l : Launch} {K : aw_K} (N d : Nat) (hd : 0 ≤ d) : ∀ (w : aw_W) (y : Int) (v : aw_W), x_Land_readItems_29 N w = some (y, v) → aw_AW l K MX1_readItems (d + 1) 29 [] [] w (some (.inl y), v) := by
  intro w y v h
  unfold x_Land_readItems_29 at h
  refine aw_iconst (pc := 29) dX1_readItems_29 ⟨by decide, by decide⟩ ?_
  cases h
  exact aw_zret (pc := 30) rfl (by decide) dX1_readItems_30
def x_Land_readItems_6 (N : Nat) : Nat → Int → Int → Int → aw_W → Option (Int × aw_W)
  | 0, _, _, _, _ => none
  | n + 1, x5, x6, x7, w =>
    if 5 < x7 then
      x_Land_readItems_128 N w
    else
      aw_b2 (x_Tape_sign N w) fun r1 w1 =>
        aw_b2 (x_indexIn_204 N r1 w1) fun r2 w2 =>
          if r2 = (-1) then
            x_Land_readItems_29 N w2
          else
            if (aw_and (aw_shr x6 r2) 1) = 0 then
              aw_b2 (x_Tape_sign N (aw_up w2 1 2 (aw_w ((w2 1 2) + 1)))) fun r3 w3 =>
                aw_b2 (x_Tape_number N 2 w3) fun r4 w4 =>
                  if r4 = (-1) then
                    x_Land_readItems_80 N w4
                  else
                    if 0 ≤ r2 ∧ r2 < 5 then
                      if r4 < (List.getD [1, 0, 0, 0, 0] (r2.toNat) 0 : Int) then
                        x_Land_readItems_100 N w4
                      else
                        if 0 ≤ r2 ∧ r2 < 5 then
                          if r4 ≤ (List.getD [6, 1, 2, 99, 9] (r2.toNat) 0 : Int) then
                            if 0 ≤ (aw_w (x5 + r2)) ∧ (aw_w (x5 + r2)) < 5 then
                              x_Land_readItems_6 N n x5 (aw_or x6 (aw_shl 1 r2)) (aw_w (x7 + 1)) (aw_up w4 9 ((aw_w (x5 + r2)).toNat) r4)
                            else none
                          else
                            x_Land_readItems_100 N w4
                        else none
                    else none
            else
              x_Land_readItems_41 N w2
theorem w_x_Land_readItems_6 {l : Launch} {K : aw_K} (N d : Nat) (hd : 0 ≤ d) : ∀ (n : Nat) (x5 x6 x7 : Int) (w : aw_W) (y : Int) (v : aw_W), x_Land_readItems_6 N n x5 x6 x7 w = some (y, v) → aw_AW l K MX1_readItems (d + 1) 6 [(0, .inr (.inr 1)), (1, .inr (.inr 204)), (2, .inr (.inr 205)), (3, .inr (.inr 206)), (4, .inr (.inr 9)), (5, .inl x5), (6, .inl x6), (7, .inl x7)] [] w (some (.inl y), v) := by
  intro n
  induction n with
  | zero => intro x5 x6 x7 w y v h; rw [x_Land_readItems_6] at h; cases h
  | succ n ih =>
    intro x5 x6 x7 w y v h
    rw [x_Land_readItems_6] at h
    refine aw_iload (pc := 6) (q := 7) dX1_readItems_6 rfl ?_
    refine aw_aload_n (pc := 8) (q := 1) dX1_readItems_8 rfl ?_
    refine aw_slen (pc := 9) (j := 4) (n := 5) dX1_readItems_9 rfl rfl ⟨by decide, by decide⟩ ?_
    refine aw_icmp_gt (pc := 10) (tgt := 128) dX1_readItems_10 (by decide) (fun hc => ?_) (fun hc => ?_)
    · rw [if_pos hc] at h
      exact aw_sel [] rfl (w_x_Land_readItems_128 N d hd  _ _ _ h)
    · rw [if_neg hc] at h
      refine aw_aload_n (pc := 13) (q := 1) dX1_readItems_13 rfl ?_
      refine aw_aload_n (pc := 14) (q := 0) dX1_readItems_14 rfl ?_
      obtain ⟨r1, w1, h1, h⟩ := aw_b2s h
      refine aw_callV (pc := 15) (as := []) (st := [.inr (.inr 204)]) (st' := [.inl r1, .inr (.inr 204)]) dX1_readItems_15 cv_RX1_64 (by decide) rfl rfl rfl rfl (Nat.le_of_ble_eq_true rfl) (w_x_Tape_sign N d (by omega) _ _ _ h1) rfl ?_
      obtain ⟨r2, w2, h2, h⟩ := aw_b2s h
      refine aw_callN (pc := 18) (as := [.inr (.inr 204), .inl r1]) (st := []) (st' := [.inl r2]) dX1_readItems_18 cn_RX1_92 rfl rfl (Nat.le_of_ble_eq_true rfl) (w_x_indexIn_204 N d (by omega) _ _ _ _ h2) rfl ?_
      refine aw_istore (pc := 21) (ls' := [(8, .inl r2), (0, .inr (.inr 1)), (1, .inr (.inr 204)), (2, .inr (.inr 205)), (3, .inr (.inr 206)), (4, .inr (.inr 9)), (5, .inl x5), (6, .inl x6), (7, .inl x7)]) dX1_readItems_21 (by decide) rfl ?_
      refine aw_iload (pc := 23) (q := 0) dX1_readItems_23 rfl ?_
      refine aw_iconst (pc := 25) dX1_readItems_25 ⟨by decide, by decide⟩ ?_
      refine aw_icmp_ne (pc := 26) (tgt := 31) dX1_readItems_26 (by decide) (fun hc => ?_) (fun hc => ?_)
      · rw [if_neg hc] at h
        refine aw_iload (pc := 31) (q := 7) dX1_readItems_31 rfl ?_
        refine aw_iload (pc := 33) (q := 0) dX1_readItems_33 rfl ?_
        refine aw_ishr (pc := 35) dX1_readItems_35 ?_
        refine aw_iconst (pc := 36) dX1_readItems_36 ⟨by decide, by decide⟩ ?_
        refine aw_iand (pc := 37) dX1_readItems_37 ?_
        refine aw_if_eq (pc := 38) (tgt := 43) dX1_readItems_38 (by decide) (fun hc => ?_) (fun hc => ?_)
        · rw [if_pos hc] at h
          refine aw_iload (pc := 43) (q := 7) dX1_readItems_43 rfl ?_
          refine aw_iconst (pc := 45) dX1_readItems_45 ⟨by decide, by decide⟩ ?_
          refine aw_iload (pc := 46) (q := 0) dX1_readItems_46 rfl ?_
          refine aw_ishl (pc := 48) dX1_readItems_48 ?_
          refine aw_ior (pc := 49) dX1_readItems_49 ?_
          refine aw_istore (pc := 50) (ls' := [(6, .inl (aw_or x6 (aw_shl 1 r2))), (8, .inl r2), (0, .inr (.inr 1)), (1, .inr (.inr 204)), (2, .inr (.inr 205)), (3, .inr (.inr 206)), (4, .inr (.inr 9)), (5, .inl x5), (7, .inl x7)]) dX1_readItems_50 (by decide) rfl ?_
          refine aw_aload_n (pc := 52) (q := 2) dX1_readItems_52 rfl ?_
          refine aw_dup (pc := 53) dX1_readItems_53 rfl ?_
          refine aw_getf (pc := 54) (v := .inl (w2 1 2)) dX1_readItems_54 fl_RX1_52 (by decide) rfl rfl rfl ?_
          refine aw_iconst (pc := 57) dX1_readItems_57 ⟨by decide, by decide⟩ ?_
          refine aw_iadd (pc := 58) dX1_readItems_58 ?_
          refine aw_puti (pc := 59) dX1_readItems_59 fp_RX1_52 (by decide) rfl rfl ?_
          refine aw_aload_n (pc := 62) (q := 2) dX1_readItems_62 rfl ?_
          obtain ⟨r3, w3, h3, h⟩ := aw_b2s h
          refine aw_callV (pc := 63) (as := []) (st := []) (st' := [.inl r3]) dX1_readItems_63 cv_RX1_64 (by decide) rfl rfl rfl rfl (Nat.le_of_ble_eq_true rfl) (w_x_Tape_sign N d (by omega) _ _ _ h3) rfl ?_
          refine aw_pop (pc := 66) dX1_readItems_66 rfl ?_
          refine aw_aload_n (pc := 67) (q := 2) dX1_readItems_67 rfl ?_
          refine aw_iconst (pc := 68) dX1_readItems_68 ⟨by decide, by decide⟩ ?_
          obtain ⟨r4, w4, h4, h⟩ := aw_b2s h
          refine aw_callV (pc := 69) (as := [.inl 2]) (st := []) (st' := [.inl r4]) dX1_readItems_69 cv_RX1_96 (by decide) rfl rfl rfl rfl (Nat.le_of_ble_eq_true rfl) (w_x_Tape_number N d (by omega) _ _ _ _ h4) rfl ?_
          refine aw_istore (pc := 72) (ls' := [(9, .inl r4), (6, .inl (aw_or x6 (aw_shl 1 r2))), (8, .inl r2), (0, .inr (.inr 1)), (1, .inr (.inr 204)), (2, .inr (.inr 205)), (3, .inr (.inr 206)), (4, .inr (.inr 9)), (5, .inl x5), (7, .inl x7)]) dX1_readItems_72 (by decide) rfl ?_
          refine aw_iload (pc := 74) (q := 0) dX1_readItems_74 rfl ?_
          refine aw_iconst (pc := 76) dX1_readItems_76 ⟨by decide, by decide⟩ ?_
          refine aw_icmp_ne (pc := 77) (tgt := 82) dX1_readItems_77 (by decide) (fun hc => ?_) (fun hc => ?_)
          · rw [if_neg hc] at h
            refine aw_iload (pc := 82) (q := 0) dX1_readItems_82 rfl ?_
            refine aw_aload_n (pc := 84) (q := 5) dX1_readItems_84 rfl ?_
            refine aw_iload (pc := 85) (q := 2) dX1_readItems_85 rfl ?_
            obtain ⟨hb, h⟩ := aw_cks h
            refine aw_saldv (pc := 87) (j := 5) (v := (List.getD [1, 0, 0, 0, 0] (r2.toNat) 0 : Int)) dX1_readItems_87 rfl hb.1 hb.2 (aw_getD_I (by decide) _) rfl ?_
            refine aw_icmp_lt (pc := 88) (tgt := 100) dX1_readItems_88 (by decide) (fun hc => ?_) (fun hc => ?_)
            · rw [if_pos hc] at h
              exact aw_sel [3] rfl (w_x_Land_readItems_100 N d hd  _ _ _ h)
            · rw [if_neg hc] at h
              refine aw_iload (pc := 91) (q := 0) dX1_readItems_91 rfl ?_
              refine aw_aload_n (pc := 93) (q := 6) dX1_readItems_93 rfl ?_
              refine aw_iload (pc := 94) (q := 2) dX1_readItems_94 rfl ?_
              obtain ⟨hb, h⟩ := aw_cks h
              refine aw_saldv (pc := 96) (j := 6) (v := (List.getD [6, 1, 2, 99, 9] (r2.toNat) 0 : Int)) dX1_readItems_96 rfl hb.1 hb.2 (aw_getD_I (by decide) _) rfl ?_
              refine aw_icmp_le (pc := 97) (tgt := 112) dX1_readItems_97 (by decide) (fun hc => ?_) (fun hc => ?_)
              · rw [if_pos hc] at h
                refine aw_aload (pc := 112) (q := 7) dX1_readItems_112 rfl ?_
                refine aw_iload (pc := 114) (q := 8) dX1_readItems_114 rfl ?_
                refine aw_iload (pc := 116) (q := 2) dX1_readItems_116 rfl ?_
                refine aw_iadd (pc := 118) dX1_readItems_118 ?_
                refine aw_iload (pc := 119) (q := 0) dX1_readItems_119 rfl ?_
                obtain ⟨hb, h⟩ := aw_cks h
                refine aw_iast (pc := 121) dX1_readItems_121 rfl hb.1 hb.2 ?_
                refine aw_iinc (pc := 122) (q := 9) (ls' := [(7, .inl (aw_w (x7 + 1))), (9, .inl r4), (6, .inl (aw_or x6 (aw_shl 1 r2))), (8, .inl r2), (0, .inr (.inr 1)), (1, .inr (.inr 204)), (2, .inr (.inr 205)), (3, .inr (.inr 206)), (4, .inr (.inr 9)), (5, .inl x5)]) dX1_readItems_122 rfl (by decide) rfl ?_
                refine aw_goto (pc := 125) (tgt := 6) dX1_readItems_125 (by decide) ?_
                exact aw_sel [4, 5, 6, 7, 8, 9, 2, 0] rfl (ih _ _ _ _ _ _ h)
              · rw [if_neg hc] at h
                exact aw_sel [3] rfl (w_x_Land_readItems_100 N d hd  _ _ _ h)
          · rw [if_pos hc] at h
            exact aw_sel [] rfl (w_x_Land_readItems_80 N d hd  _ _ _ h)
        · rw [if_neg hc] at h
          exact aw_sel [] rfl (w_x_Land_readItems_41 N d hd  _ _ _ h)
      · rw [if_pos hc] at h
        exact aw_sel [] rfl (w_x_Land_readItems_29 N d hd  _ _ _ h)
def x_Land_readItems (N : Nat) (x5 : Int) (w : aw_W) : Option (Int × aw_W) :=
  x_Land_readItems_6 N N x5 0 0 w
theorem w_x_Land_readItems_d {l : Launch} {K : aw_K} (N d : Nat) (hd : 0 ≤ d) : ∀ (x5 : Int) (w : aw_W) (y : Int) (v : aw_W), x_Land_readItems N x5 w = some (y, v) → aw_Met l K MX1_readItems (d + 1) [.inr (.inr 1), .inr (.inr 204), .inr (.inr 205), .inr (.inr 206), .inr (.inr 9), .inl x5] w (some (.inl y), v) := by
  intro x5 w y v h
  unfold x_Land_readItems at h
  refine aw_enter rfl (Nat.le_of_ble_eq_true rfl) ?_
  show aw_AW l K MX1_readItems (d + 1) 0 [(0, .inr (.inr 1)), (1, .inr (.inr 204)), (2, .inr (.inr 205)), (3, .inr (.inr 206)), (4, .inr (.inr 9)), (5, .inl x5)] [] w (some (.inl y), v)
  refine aw_iconst (pc := 0) dX1_readItems_0 ⟨by decide, by decide⟩ ?_
  refine aw_istore (pc := 1) (ls' := [(6, .inl 0), (0, .inr (.inr 1)), (1, .inr (.inr 204)), (2, .inr (.inr 205)), (3, .inr (.inr 206)), (4, .inr (.inr 9)), (5, .inl x5)]) dX1_readItems_1 (by decide) rfl ?_
  refine aw_iconst (pc := 3) dX1_readItems_3 ⟨by decide, by decide⟩ ?_
  refine aw_istore (pc := 4) (ls' := [(7, .inl 0), (6, .inl 0), (0, .inr (.inr 1)), (1, .inr (.inr 204)), (2, .inr (.inr 205)), (3, .inr (.inr 206)), (4, .inr (.inr 9)), (5, .inl x5)]) dX1_readItems_4 (by decide) rfl ?_
  exact aw_sel [2, 3, 4, 5, 6, 7, 1, 0] rfl (w_x_Land_readItems_6 N d hd  N _ _ _ _ _ _ h)
theorem w_x_Land_readItems {l : Launch} {K : aw_K} (N d : Nat) (hd : 1 ≤ d) : ∀ (x5 : Int) (w : aw_W) (y : Int) (v : aw_W), x_Land_readItems N x5 w = some (y, v) → aw_Met l K MX1_readItems (d) [.inr (.inr 1), .inr (.inr 204), .inr (.inr 205), .inr (.inr 206), .inr (.inr 9), .inl x5] w (some (.inl y), v) := by
  obtain ⟨e, rfl⟩ : ∃ e, d = e + 1 := ⟨d - 1, by omega⟩
  exact w_x_Land_readItems_d N e (by omega)
def x_indexIn_200_23 (N : Nat) (w : aw_W) : Option (Int × aw_W) :=
  some ((-1), w)
theorem w_x_indexIn_200_23 {l : Launch} {K : aw_K} (N d : Nat) : ∀ (w : aw_W) (y : Int) (v : aw_W), x_indexIn_200_23 N w = some (y, v) → aw_AW l K MX11_indexIn (d) 23 [] [] w (some (.inl y), v) := by
  intro w y v h
  unfold x_indexIn_200_23 at h
  refine aw_iconst (pc := 23) dX11_indexIn_23 ⟨by decide, by decide⟩ ?_
  cases h
  exact aw_iret (pc := 24) rfl dX11_indexIn_24
def x_indexIn_200_15 (N : Nat) (x2 : Int) (w : aw_W) : Option (Int × aw_W) :=
  some (x2, w)
theorem w_x_indexIn_200_15 {l : Launch} {K : aw_K} (N d : Nat) : ∀ (x2 : Int) (w : aw_W) (y : Int) (v : aw_W), x_indexIn_200_15 N x2 w = some (y, v) → aw_AW l K MX11_indexIn (d) 15 [(2, .inl x2)] [] w (some (.inl y), v) := by
  intro x2 w y v h
  unfold x_indexIn_200_15 at h
  refine aw_iload_n (pc := 15) (q := 0) dX11_indexIn_15 rfl ?_
  cases h
  exact aw_iret (pc := 16) rfl dX11_indexIn_16
def x_indexIn_200_2 (N : Nat) : Nat → Int → Int → aw_W → Option (Int × aw_W)
  | 0, _, _, _ => none
  | n + 1, x1, x2, w =>
    if 4 ≤ x2 then
      x_indexIn_200_23 N w
    else
      if 0 ≤ x2 ∧ x2 < 4 then
        if (List.getD [112, 119, 107, 98] (x2.toNat) 0 : Int) = x1 then
          x_indexIn_200_15 N x2 w
        else
          x_indexIn_200_2 N n x1 (aw_w (x2 + 1)) w
      else none
theorem w_x_indexIn_200_2 {l : Launch} {K : aw_K} (N d : Nat) : ∀ (n : Nat) (x1 x2 : Int) (w : aw_W) (y : Int) (v : aw_W), x_indexIn_200_2 N n x1 x2 w = some (y, v) → aw_AW l K MX11_indexIn (d) 2 [(0, .inr (.inr 200)), (1, .inl x1), (2, .inl x2)] [] w (some (.inl y), v) := by
  intro n
  induction n with
  | zero => intro x1 x2 w y v h; rw [x_indexIn_200_2] at h; cases h
  | succ n ih =>
    intro x1 x2 w y v h
    rw [x_indexIn_200_2] at h
    refine aw_iload_n (pc := 2) (q := 2) dX11_indexIn_2 rfl ?_
    refine aw_aload_n (pc := 3) (q := 0) dX11_indexIn_3 rfl ?_
    refine aw_slen (pc := 4) (j := 0) (n := 4) dX11_indexIn_4 rfl rfl ⟨by decide, by decide⟩ ?_
    refine aw_icmp_ge (pc := 5) (tgt := 23) dX11_indexIn_5 (by decide) (fun hc => ?_) (fun hc => ?_)
    · rw [if_pos hc] at h
      exact aw_sel [] rfl (w_x_indexIn_200_23 N d  _ _ _ h)
    · rw [if_neg hc] at h
      refine aw_aload_n (pc := 8) (q := 0) dX11_indexIn_8 rfl ?_
      refine aw_iload_n (pc := 9) (q := 2) dX11_indexIn_9 rfl ?_
      obtain ⟨hb, h⟩ := aw_cks h
      refine aw_saldv (pc := 10) (j := 0) (v := (List.getD [112, 119, 107, 98] (x2.toNat) 0 : Int)) dX11_indexIn_10 rfl hb.1 hb.2 (aw_getD_I (by decide) _) rfl ?_
      refine aw_iload_n (pc := 11) (q := 1) dX11_indexIn_11 rfl ?_
      refine aw_icmp_ne (pc := 12) (tgt := 17) dX11_indexIn_12 (by decide) (fun hc => ?_) (fun hc => ?_)
      · rw [if_neg hc] at h
        refine aw_iinc (pc := 17) (q := 2) (ls' := [(2, .inl (aw_w (x2 + 1))), (0, .inr (.inr 200)), (1, .inl x1)]) dX11_indexIn_17 rfl (by decide) rfl ?_
        refine aw_goto (pc := 20) (tgt := 2) dX11_indexIn_20 (by decide) ?_
        exact aw_sel [1, 2, 0] rfl (ih _ _ _ _ _ h)
      · rw [if_pos hc] at h
        exact aw_sel [2] rfl (w_x_indexIn_200_15 N d  _ _ _ _ h)
def x_indexIn_200 (N : Nat) (x1 : Int) (w : aw_W) : Option (Int × aw_W) :=
  x_indexIn_200_2 N N x1 0 w
theorem w_x_indexIn_200 {l : Launch} {K : aw_K} (N d : Nat) (hd : 0 ≤ d) : ∀ (x1 : Int) (w : aw_W) (y : Int) (v : aw_W), x_indexIn_200 N x1 w = some (y, v) → aw_Met l K MX11_indexIn (d) [.inr (.inr 200), .inl x1] w (some (.inl y), v) := by
  intro x1 w y v h
  unfold x_indexIn_200 at h
  refine aw_enter rfl (Nat.le_of_ble_eq_true rfl) ?_
  show aw_AW l K MX11_indexIn (d) 0 [(0, .inr (.inr 200)), (1, .inl x1)] [] w (some (.inl y), v)
  refine aw_iconst (pc := 0) dX11_indexIn_0 ⟨by decide, by decide⟩ ?_
  refine aw_istore_n (pc := 1) (ls' := [(2, .inl 0), (0, .inr (.inr 200)), (1, .inl x1)]) dX11_indexIn_1 (by decide) rfl ?_
  exact aw_sel [1, 2, 0] rfl (w_x_indexIn_200_2 N d  N _ _ _ _ _ h)
