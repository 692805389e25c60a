theorem dL_law_978 : decode cL_law 978 = .ok (.aload_n 1, 1) := by decide +kernel
theorem dL_law_979 : decode cL_law 979 = .ok (.aload_n 0, 1) := by decide +kernel
theorem dL_law_980 : decode cL_law 980 = .ok (.iload 4, 2) := by decide +kernel
theorem dL_law_982 : decode cL_law 982 = .ok (.iconst 1, 1) := by decide +kernel
theorem dL_law_983 : decode cL_law 983 = .ok (.iadd, 1) := by decide +kernel
theorem dL_law_984 : decode cL_law 984 = .ok (.iaload, 1) := by decide +kernel
theorem dL_law_985 : decode cL_law 985 = .ok (.aload_n 0, 1) := by decide +kernel
theorem dL_law_986 : decode cL_law 986 = .ok (.iload 4, 2) := by decide +kernel
theorem dL_law_988 : decode cL_law 988 = .ok (.iconst 2, 1) := by decide +kernel
theorem dL_law_989 : decode cL_law 989 = .ok (.iadd, 1) := by decide +kernel
theorem dL_law_990 : decode cL_law 990 = .ok (.iaload, 1) := by decide +kernel
theorem dL_law_991 : decode cL_law 991 = .ok (.invokevirtual 107, 3) := by decide +kernel
theorem dL_law_994 : decode cL_law 994 = .ok (.aload_n 2, 1) := by decide +kernel
theorem dL_law_995 : decode cL_law 995 = .ok (.aload_n 0, 1) := by decide +kernel
theorem dL_law_996 : decode cL_law 996 = .ok (.iload 4, 2) := by decide +kernel
theorem dL_law_998 : decode cL_law 998 = .ok (.iconst 1, 1) := by decide +kernel
theorem dL_law_999 : decode cL_law 999 = .ok (.iadd, 1) := by decide +kernel
theorem dL_law_1000 : decode cL_law 1000 = .ok (.iaload, 1) := by decide +kernel
theorem dL_law_1001 : decode cL_law 1001 = .ok (.aload_n 0, 1) := by decide +kernel
theorem dL_law_1002 : decode cL_law 1002 = .ok (.iload 4, 2) := by decide +kernel
theorem dL_law_1004 : decode cL_law 1004 = .ok (.iconst 2, 1) := by decide +kernel
theorem dL_law_1005 : decode cL_law 1005 = .ok (.iadd, 1) := by decide +kernel
theorem dL_law_1006 : decode cL_law 1006 = .ok (.iaload, 1) := by decide +kernel
theorem dL_law_1007 : decode cL_law 1007 = .ok (.invokevirtual 110, 3) := by decide +kernel
theorem dL_law_1010 : decode cL_law 1010 = .ok (.if_icmp .eq 634, 3) := by decide +kernel
theorem lc_waits {p : Program} {l : Launch} {e : Env} {s : State} {m : MethodId} {below : List Frame} {meth : Method} {c : Code} {K : aw_K} {b L : Nat} {xs : Nat → Int32} {cells slots i : Nat} {w : aw_W} (C : lz_Cx K l p s m meth c b L xs) (hi : i + 6 ≤ L) (hcs : cells ≤ 601024) (hss : slots ≤ 7293034) (hnv : nv w) (hok : aw_okw w) (k : ∀ w2, nv w2 → aw_okw w2 → lz_W p l e s m below meth c K b (cells + 1) (slots + 6) 1644 i [] w2) : lz_W p l e s m below meth c K b cells slots 978 i [] w := by
  obtain ⟨a, w1, w2, e1, e2, h2⟩ := C_waits (N := 10000000) (Nat.le_refl _) hnv (x1 := (xs (i + 1)).toInt) (x2 := (xs (i + 2)).toInt)
  refine lz_x C dL_law_978 ?_
  refine lz_arg (k := 1) rfl C (by omega) dL_law_979 dL_law_980 dL_law_982 dL_law_983 dL_law_984 ?_
  refine lz_arg (k := 2) rfl C (by omega) dL_law_985 dL_law_986 dL_law_988 dL_law_989 dL_law_990 ?_
  refine lz_call (j := 0) (d := 4) (as := [.inl (xs (i + 1)).toInt, .inl (xs (i + 2)).toInt]) (rest := []) C dL_law_991 cv_RL_107 (by decide) rfl rfl rfl rfl (Nat.le_of_ble_eq_true rfl) (Nat.le_of_ble_eq_true rfl) hcs hss hok (lz_oa (lz_oa lz_oa0)) (w_x_waits _ 4 (by omega) _ _ _ _ _ e1) (fun _ hok1 => ?_)
  refine lz_m C dL_law_994 ?_
  refine lz_arg (k := 1) rfl C (by omega) dL_law_995 dL_law_996 dL_law_998 dL_law_999 dL_law_1000 ?_
  refine lz_arg (k := 2) rfl C (by omega) dL_law_1001 dL_law_1002 dL_law_1004 dL_law_1005 dL_law_1006 ?_
  refine lz_call (j := 49) (d := 2) (as := [.inl (xs (i + 1)).toInt, .inl (xs (i + 2)).toInt]) (rest := [.int (Int32.ofInt a)]) C dL_law_1007 cv_RL_110 (by decide) rfl rfl rfl rfl (Nat.le_of_ble_eq_true rfl) (Nat.le_of_ble_eq_true rfl) hcs hss hok1 (lz_oa (lz_oa lz_oa0)) (w_m_waits _ 2 (by omega) _ _ _ _ _ e2) (fun _ hok2 => ?_)
  exact lz_eq C dL_law_1010 (by decide) (k w2 h2 hok2)
theorem dL_law_1015 : decode cL_law 1015 = .ok (.aload_n 1, 1) := by decide +kernel
theorem dL_law_1016 : decode cL_law 1016 = .ok (.aload_n 0, 1) := by decide +kernel
theorem dL_law_1017 : decode cL_law 1017 = .ok (.iload 4, 2) := by decide +kernel
theorem dL_law_1019 : decode cL_law 1019 = .ok (.iconst 1, 1) := by decide +kernel
theorem dL_law_1020 : decode cL_law 1020 = .ok (.iadd, 1) := by decide +kernel
theorem dL_law_1021 : decode cL_law 1021 = .ok (.iaload, 1) := by decide +kernel
theorem dL_law_1022 : decode cL_law 1022 = .ok (.invokevirtual 111, 3) := by decide +kernel
theorem dL_law_1025 : decode cL_law 1025 = .ok (.aload_n 2, 1) := by decide +kernel
theorem dL_law_1026 : decode cL_law 1026 = .ok (.aload_n 0, 1) := by decide +kernel
theorem dL_law_1027 : decode cL_law 1027 = .ok (.iload 4, 2) := by decide +kernel
theorem dL_law_1029 : decode cL_law 1029 = .ok (.iconst 1, 1) := by decide +kernel
theorem dL_law_1030 : decode cL_law 1030 = .ok (.iadd, 1) := by decide +kernel
theorem dL_law_1031 : decode cL_law 1031 = .ok (.iaload, 1) := by decide +kernel
theorem dL_law_1032 : decode cL_law 1032 = .ok (.invokevirtual 114, 3) := by decide +kernel
theorem dL_law_1035 : decode cL_law 1035 = .ok (.if_icmp .eq 609, 3) := by decide +kernel
theorem lc_spur {p : Program} {l : Launch} {e : Env} {s : State} {m : MethodId} {below : List Frame} {meth : Method} {c : Code} {K : aw_K} {b L : Nat} {xs : Nat → Int32} {cells slots i : Nat} {w : aw_W} (C : lz_Cx K l p s m meth c b L xs) (hi : i + 6 ≤ L) (hcs : cells ≤ 601024) (hss : slots ≤ 7293034) (hnv : nv w) (hok : aw_okw w) (k : ∀ w2, nv w2 → aw_okw w2 → lz_W p l e s m below meth c K b (cells + 1) (slots + 6) 1644 i [] w2) : lz_W p l e s m below meth c K b cells slots 1015 i [] w := by
  obtain ⟨a, w1, w2, e1, e2, h2⟩ := C_spur (N := 10000000) (Nat.le_refl _) hnv (x1 := (xs (i + 1)).toInt)
  refine lz_x C dL_law_1015 ?_
  refine lz_arg (k := 1) rfl C (by omega) dL_law_1016 dL_law_1017 dL_law_1019 dL_law_1020 dL_law_1021 ?_
  refine lz_call (j := 0) (d := 4) (as := [.inl (xs (i + 1)).toInt]) (rest := []) C dL_law_1022 cv_RL_111 (by decide) rfl rfl rfl rfl (Nat.le_of_ble_eq_true rfl) (Nat.le_of_ble_eq_true rfl) hcs hss hok (lz_oa lz_oa0) (w_x_spur _ 4 (by omega) _ _ _ _ e1) (fun _ hok1 => ?_)
  refine lz_m C dL_law_1025 ?_
  refine lz_arg (k := 1) rfl C (by omega) dL_law_1026 dL_law_1027 dL_law_1029 dL_law_1030 dL_law_1031 ?_
  refine lz_call (j := 49) (d := 2) (as := [.inl (xs (i + 1)).toInt]) (rest := [.int (Int32.ofInt a)]) C dL_law_1032 cv_RL_114 (by decide) rfl rfl rfl rfl (Nat.le_of_ble_eq_true rfl) (Nat.le_of_ble_eq_true rfl) hcs hss hok1 (lz_oa lz_oa0) (w_m_spur _ 2 (by omega) _ _ _ _ e2) (fun _ hok2 => ?_)
  exact lz_eq C dL_law_1035 (by decide) (k w2 h2 hok2)
theorem dL_law_1040 : decode cL_law 1040 = .ok (.aload_n 1, 1) := by decide +kernel
theorem dL_law_1041 : decode cL_law 1041 = .ok (.aload_n 0, 1) := by decide +kernel
theorem dL_law_1042 : decode cL_law 1042 = .ok (.iload 4, 2) := by decide +kernel
theorem dL_law_1044 : decode cL_law 1044 = .ok (.iconst 1, 1) := by decide +kernel
theorem dL_law_1045 : decode cL_law 1045 = .ok (.iadd, 1) := by decide +kernel
theorem dL_law_1046 : decode cL_law 1046 = .ok (.iaload, 1) := by decide +kernel
theorem dL_law_1047 : decode cL_law 1047 = .ok (.invokevirtual 115, 3) := by decide +kernel
theorem dL_law_1050 : decode cL_law 1050 = .ok (.aload_n 2, 1) := by decide +kernel
theorem dL_law_1051 : decode cL_law 1051 = .ok (.aload_n 0, 1) := by decide +kernel
theorem dL_law_1052 : decode cL_law 1052 = .ok (.iload 4, 2) := by decide +kernel
theorem dL_law_1054 : decode cL_law 1054 = .ok (.iconst 1, 1) := by decide +kernel
theorem dL_law_1055 : decode cL_law 1055 = .ok (.iadd, 1) := by decide +kernel
theorem dL_law_1056 : decode cL_law 1056 = .ok (.iaload, 1) := by decide +kernel
theorem dL_law_1057 : decode cL_law 1057 = .ok (.invokevirtual 118, 3) := by decide +kernel
theorem dL_law_1060 : decode cL_law 1060 = .ok (.if_icmp .eq 584, 3) := by decide +kernel
theorem lc_rounds {p : Program} {l : Launch} {e : Env} {s : State} {m : MethodId} {below : List Frame} {meth : Method} {c : Code} {K : aw_K} {b L : Nat} {xs : Nat → Int32} {cells slots i : Nat} {w : aw_W} (C : lz_Cx K l p s m meth c b L xs) (hi : i + 6 ≤ L) (hcs : cells ≤ 601024) (hss : slots ≤ 7293034) (hnv : nv w) (hok : aw_okw w) (k : ∀ w2, nv w2 → aw_okw w2 → lz_W p l e s m below meth c K b (cells + 1) (slots + 6) 1644 i [] w2) : lz_W p l e s m below meth c K b cells slots 1040 i [] w := by
  obtain ⟨a, w1, w2, e1, e2, h2⟩ := C_rounds (N := 10000000) (Nat.le_refl _) hnv (x1 := (xs (i + 1)).toInt)
  refine lz_x C dL_law_1040 ?_
  refine lz_arg (k := 1) rfl C (by omega) dL_law_1041 dL_law_1042 dL_law_1044 dL_law_1045 dL_law_1046 ?_
  refine lz_call (j := 0) (d := 7) (as := [.inl (xs (i + 1)).toInt]) (rest := []) C dL_law_1047 cv_RL_115 (by decide) rfl rfl rfl rfl (Nat.le_of_ble_eq_true rfl) (Nat.le_of_ble_eq_true rfl) hcs hss hok (lz_oa lz_oa0) (w_x_rounds _ 7 (by omega) _ _ _ _ e1) (fun _ hok1 => ?_)
  refine lz_m C dL_law_1050 ?_
  refine lz_arg (k := 1) rfl C (by omega) dL_law_1051 dL_law_1052 dL_law_1054 dL_law_1055 dL_law_1056 ?_
  refine lz_call (j := 49) (d := 7) (as := [.inl (xs (i + 1)).toInt]) (rest := [.int (Int32.ofInt a)]) C dL_law_1057 cv_RL_118 (by decide) rfl rfl rfl rfl (Nat.le_of_ble_eq_true rfl) (Nat.le_of_ble_eq_true rfl) hcs hss hok1 (lz_oa lz_oa0) (w_m_rounds _ 7 (by omega) _ _ _ _ e2) (fun _ hok2 => ?_)
  exact lz_eq C dL_law_1060 (by decide) (k w2 h2 hok2)
theorem dL_law_1065 : decode cL_law 1065 = .ok (.aload_n 1, 1) := by decide +kernel
theorem dL_law_1066 : decode cL_law 1066 = .ok (.aload_n 0, 1) := by decide +kernel
theorem dL_law_1067 : decode cL_law 1067 = .ok (.iload 4, 2) := by decide +kernel
theorem dL_law_1069 : decode cL_law 1069 = .ok (.iconst 1, 1) := by decide +kernel
theorem dL_law_1070 : decode cL_law 1070 = .ok (.iadd, 1) := by decide +kernel
theorem dL_law_1071 : decode cL_law 1071 = .ok (.iaload, 1) := by decide +kernel
theorem dL_law_1072 : decode cL_law 1072 = .ok (.invokevirtual 119, 3) := by decide +kernel
theorem dL_law_1075 : decode cL_law 1075 = .ok (.aload_n 2, 1) := by decide +kernel
theorem dL_law_1076 : decode cL_law 1076 = .ok (.aload_n 0, 1) := by decide +kernel
theorem dL_law_1077 : decode cL_law 1077 = .ok (.iload 4, 2) := by decide +kernel
theorem dL_law_1079 : decode cL_law 1079 = .ok (.iconst 1, 1) := by decide +kernel
theorem dL_law_1080 : decode cL_law 1080 = .ok (.iadd, 1) := by decide +kernel
theorem dL_law_1081 : decode cL_law 1081 = .ok (.iaload, 1) := by decide +kernel
theorem dL_law_1082 : decode cL_law 1082 = .ok (.invokevirtual 122, 3) := by decide +kernel
theorem dL_law_1085 : decode cL_law 1085 = .ok (.if_icmp .eq 559, 3) := by decide +kernel
theorem lc_honour {p : Program} {l : Launch} {e : Env} {s : State} {m : MethodId} {below : List Frame} {meth : Method} {c : Code} {K : aw_K} {b L : Nat} {xs : Nat → Int32} {cells slots i : Nat} {w : aw_W} (C : lz_Cx K l p s m meth c b L xs) (hi : i + 6 ≤ L) (hcs : cells ≤ 601024) (hss : slots ≤ 7293034) (hnv : nv w) (hok : aw_okw w) (k : ∀ w2, nv w2 → aw_okw w2 → lz_W p l e s m below meth c K b (cells + 1) (slots + 6) 1644 i [] w2) : lz_W p l e s m below meth c K b cells slots 1065 i [] w := by
  obtain ⟨a, w1, w2, e1, e2, h2⟩ := C_honour (N := 10000000) (Nat.le_refl _) hnv (x1 := (xs (i + 1)).toInt) (aw_Ii _)
  refine lz_x C dL_law_1065 ?_
  refine lz_arg (k := 1) rfl C (by omega) dL_law_1066 dL_law_1067 dL_law_1069 dL_law_1070 dL_law_1071 ?_
  refine lz_call (j := 0) (d := 2) (as := [.inl (xs (i + 1)).toInt]) (rest := []) C dL_law_1072 cv_RL_119 (by decide) rfl rfl rfl rfl (Nat.le_of_ble_eq_true rfl) (Nat.le_of_ble_eq_true rfl) hcs hss hok (lz_oa lz_oa0) (w_x_honour _ 2 (by omega) _ _ _ _ e1) (fun _ hok1 => ?_)
  refine lz_m C dL_law_1075 ?_
  refine lz_arg (k := 1) rfl C (by omega) dL_law_1076 dL_law_1077 dL_law_1079 dL_law_1080 dL_law_1081 ?_
  refine lz_call (j := 49) (d := 1) (as := [.inl (xs (i + 1)).toInt]) (rest := [.int (Int32.ofInt a)]) C dL_law_1082 cv_RL_122 (by decide) rfl rfl rfl rfl (Nat.le_of_ble_eq_true rfl) (Nat.le_of_ble_eq_true rfl) hcs hss hok1 (lz_oa lz_oa0) (w_m_honour _ 1 (by omega) _ _ _ _ e2) (fun _ hok2 => ?_)
  exact lz_eq C dL_law_1085 (by decide) (k w2 h2 hok2)
theorem dL_law_1090 : decode cL_law 1090 = .ok (.aload_n 1, 1) := by decide +kernel
theorem dL_law_1091 : decode cL_law 1091 = .ok (.aload_n 0, 1) := by decide +kernel
theorem dL_law_1092 : decode cL_law 1092 = .ok (.iload 4, 2) := by decide +kernel
theorem dL_law_1094 : decode cL_law 1094 = .ok (.iconst 1, 1) := by decide +kernel
theorem dL_law_1095 : decode cL_law 1095 = .ok (.iadd, 1) := by decide +kernel
theorem dL_law_1096 : decode cL_law 1096 = .ok (.iaload, 1) := by decide +kernel
theorem dL_law_1097 : decode cL_law 1097 = .ok (.aload_n 0, 1) := by decide +kernel
theorem dL_law_1098 : decode cL_law 1098 = .ok (.iload 4, 2) := by decide +kernel
theorem dL_law_1100 : decode cL_law 1100 = .ok (.iconst 2, 1) := by decide +kernel
theorem dL_law_1101 : decode cL_law 1101 = .ok (.iadd, 1) := by decide +kernel
theorem dL_law_1102 : decode cL_law 1102 = .ok (.iaload, 1) := by decide +kernel
theorem dL_law_1103 : decode cL_law 1103 = .ok (.i2l, 1) := by decide +kernel
theorem dL_law_1104 : decode cL_law 1104 = .ok (.bipush 32, 2) := by decide +kernel
theorem dL_law_1106 : decode cL_law 1106 = .ok (.lshl, 1) := by decide +kernel
theorem dL_law_1107 : decode cL_law 1107 = .ok (.aload_n 0, 1) := by decide +kernel
theorem dL_law_1108 : decode cL_law 1108 = .ok (.iload 4, 2) := by decide +kernel
theorem dL_law_1110 : decode cL_law 1110 = .ok (.iconst 3, 1) := by decide +kernel
theorem dL_law_1111 : decode cL_law 1111 = .ok (.iadd, 1) := by decide +kernel
theorem dL_law_1112 : decode cL_law 1112 = .ok (.iaload, 1) := by decide +kernel
theorem dL_law_1113 : decode cL_law 1113 = .ok (.i2l, 1) := by decide +kernel
theorem dL_law_1114 : decode cL_law 1114 = .ok (.ldc2_w 123, 3) := by decide +kernel
theorem dL_law_1117 : decode cL_law 1117 = .ok (.land, 1) := by decide +kernel
theorem dL_law_1118 : decode cL_law 1118 = .ok (.lor, 1) := by decide +kernel
theorem dL_law_1119 : decode cL_law 1119 = .ok (.invokevirtual 125, 3) := by decide +kernel
theorem dL_law_1122 : decode cL_law 1122 = .ok (.aload_n 2, 1) := by decide +kernel
theorem dL_law_1123 : decode cL_law 1123 = .ok (.aload_n 0, 1) := by decide +kernel
theorem dL_law_1124 : decode cL_law 1124 = .ok (.iload 4, 2) := by decide +kernel
theorem dL_law_1126 : decode cL_law 1126 = .ok (.iconst 1, 1) := by decide +kernel
theorem dL_law_1127 : decode cL_law 1127 = .ok (.iadd, 1) := by decide +kernel
theorem dL_law_1128 : decode cL_law 1128 = .ok (.iaload, 1) := by decide +kernel
theorem dL_law_1129 : decode cL_law 1129 = .ok (.aload_n 0, 1) := by decide +kernel
theorem dL_law_1130 : decode cL_law 1130 = .ok (.iload 4, 2) := by decide +kernel
theorem dL_law_1132 : decode cL_law 1132 = .ok (.iconst 2, 1) := by decide +kernel
theorem dL_law_1133 : decode cL_law 1133 = .ok (.iadd, 1) := by decide +kernel
theorem dL_law_1134 : decode cL_law 1134 = .ok (.iaload, 1) := by decide +kernel
theorem dL_law_1135 : decode cL_law 1135 = .ok (.i2l, 1) := by decide +kernel
theorem dL_law_1136 : decode cL_law 1136 = .ok (.bipush 32, 2) := by decide +kernel
theorem dL_law_1138 : decode cL_law 1138 = .ok (.lshl, 1) := by decide +kernel
theorem dL_law_1139 : decode cL_law 1139 = .ok (.aload_n 0, 1) := by decide +kernel
theorem dL_law_1140 : decode cL_law 1140 = .ok (.iload 4, 2) := by decide +kernel
theorem dL_law_1142 : decode cL_law 1142 = .ok (.iconst 3, 1) := by decide +kernel
theorem dL_law_1143 : decode cL_law 1143 = .ok (.iadd, 1) := by decide +kernel
theorem dL_law_1144 : decode cL_law 1144 = .ok (.iaload, 1) := by decide +kernel
theorem dL_law_1145 : decode cL_law 1145 = .ok (.i2l, 1) := by decide +kernel
theorem dL_law_1146 : decode cL_law 1146 = .ok (.ldc2_w 123, 3) := by decide +kernel
theorem dL_law_1149 : decode cL_law 1149 = .ok (.land, 1) := by decide +kernel
theorem dL_law_1150 : decode cL_law 1150 = .ok (.lor, 1) := by decide +kernel
theorem dL_law_1151 : decode cL_law 1151 = .ok (.invokevirtual 129, 3) := by decide +kernel
theorem dL_law_1154 : decode cL_law 1154 = .ok (.if_icmp .eq 490, 3) := by decide +kernel
theorem lc_years {p : Program} {l : Launch} {e : Env} {s : State} {m : MethodId} {below : List Frame} {meth : Method} {c : Code} {K : aw_K} {b L : Nat} {xs : Nat → Int32} {cells slots i : Nat} {w : aw_W} (C : lz_Cx K l p s m meth c b L xs) (hi : i + 6 ≤ L) (hcs : cells ≤ 601024) (hss : slots ≤ 7293034) (hnv : nv w) (hok : aw_okw w) (k : ∀ w2, nv w2 → aw_okw w2 → lz_W p l e s m below meth c K b (cells + 1) (slots + 6) 1644 i [] w2) : lz_W p l e s m below meth c K b cells slots 1090 i [] w := by
  obtain ⟨a, w1, w2, e1, e2, h2⟩ := C_years (N := 10000000) (Nat.le_refl _) hnv (x1 := (xs (i + 1)).toInt) (x2 := lz_long xs i)
  refine lz_x C dL_law_1090 ?_
  refine lz_arg (k := 1) rfl C (by omega) dL_law_1091 dL_law_1092 dL_law_1094 dL_law_1095 dL_law_1096 ?_
  refine lz_ll C hi cnl_RL_123 dL_law_1097 dL_law_1098 dL_law_1100 dL_law_1101 dL_law_1102 dL_law_1103 dL_law_1104 dL_law_1106 dL_law_1107 dL_law_1108 dL_law_1110 dL_law_1111 dL_law_1112 dL_law_1113 dL_law_1114 dL_law_1117 dL_law_1118 ?_
  refine lz_call (j := 0) (d := 2) (as := [.inl (xs (i + 1)).toInt, .inr (.inl (lz_long xs i))]) (rest := []) C dL_law_1119 cv_RL_125 (by decide) rfl rfl rfl rfl (Nat.le_of_ble_eq_true rfl) (Nat.le_of_ble_eq_true rfl) hcs hss hok (lz_oa (lz_oaL (aw_Ll _) lz_oa0)) (w_x_years _ 2 (by omega) _ _ _ _ _ e1) (fun _ hok1 => ?_)
  refine lz_m C dL_law_1122 ?_
  refine lz_arg (k := 1) rfl C (by omega) dL_law_1123 dL_law_1124 dL_law_1126 dL_law_1127 dL_law_1128 ?_
  refine lz_ll C hi cnl_RL_123 dL_law_1129 dL_law_1130 dL_law_1132 dL_law_1133 dL_law_1134 dL_law_1135 dL_law_1136 dL_law_1138 dL_law_1139 dL_law_1140 dL_law_1142 dL_law_1143 dL_law_1144 dL_law_1145 dL_law_1146 dL_law_1149 dL_law_1150 ?_
  refine lz_call (j := 49) (d := 1) (as := [.inl (xs (i + 1)).toInt, .inr (.inl (lz_long xs i))]) (rest := [.int (Int32.ofInt a)]) C dL_law_1151 cv_RL_129 (by decide) rfl rfl rfl rfl (Nat.le_of_ble_eq_true rfl) (Nat.le_of_ble_eq_true rfl) hcs hss hok1 (lz_oa (lz_oaL (aw_Ll _) lz_oa0)) (w_m_years _ 1 (by omega) _ _ _ _ _ e2) (fun _ hok2 => ?_)
  exact lz_eq C dL_law_1154 (by decide) (k w2 h2 hok2)
