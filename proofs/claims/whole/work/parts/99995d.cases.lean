theorem dL_law_793 : decode cL_law 793 = .ok (.aload_n 1, 1) := by decide +kernel
theorem dL_law_794 : decode cL_law 794 = .ok (.aload_n 0, 1) := by decide +kernel
theorem dL_law_795 : decode cL_law 795 = .ok (.iload 4, 2) := by decide +kernel
theorem dL_law_797 : decode cL_law 797 = .ok (.iconst 1, 1) := by decide +kernel
theorem dL_law_798 : decode cL_law 798 = .ok (.iadd, 1) := by decide +kernel
theorem dL_law_799 : decode cL_law 799 = .ok (.iaload, 1) := by decide +kernel
theorem dL_law_800 : decode cL_law 800 = .ok (.invokevirtual 87, 3) := by decide +kernel
theorem dL_law_803 : decode cL_law 803 = .ok (.aload_n 2, 1) := by decide +kernel
theorem dL_law_804 : decode cL_law 804 = .ok (.aload_n 0, 1) := by decide +kernel
theorem dL_law_805 : decode cL_law 805 = .ok (.iload 4, 2) := by decide +kernel
theorem dL_law_807 : decode cL_law 807 = .ok (.iconst 1, 1) := by decide +kernel
theorem dL_law_808 : decode cL_law 808 = .ok (.iadd, 1) := by decide +kernel
theorem dL_law_809 : decode cL_law 809 = .ok (.iaload, 1) := by decide +kernel
theorem dL_law_810 : decode cL_law 810 = .ok (.invokevirtual 90, 3) := by decide +kernel
theorem dL_law_813 : decode cL_law 813 = .ok (.if_icmp .eq 831, 3) := by decide +kernel
theorem lc_seller {p : Program} {l : Launch} {e : Env} {s : State} {m : MethodId} {below : List Frame} {meth : Method} {c : Code} {K : aw_K} {b L : Nat} {xs : Nat → Int32} {cells slots i : Nat} {w : aw_W} (C : lz_Cx K l p s m meth c b L xs) (hi : i + 6 ≤ L) (hcs : cells ≤ 601024) (hss : slots ≤ 7293034) (hnv : nv w) (hok : aw_okw w) (k : ∀ w2, nv w2 → aw_okw w2 → lz_W p l e s m below meth c K b (cells + 1) (slots + 6) 1644 i [] w2) : lz_W p l e s m below meth c K b cells slots 793 i [] w := by
  obtain ⟨a, w1, w2, e1, e2, h2⟩ := C_seller (N := 10000000) (Nat.le_refl _) hnv (x1 := (xs (i + 1)).toInt)
  refine lz_x C dL_law_793 ?_
  refine lz_arg (k := 1) rfl C (by omega) dL_law_794 dL_law_795 dL_law_797 dL_law_798 dL_law_799 ?_
  refine lz_call (j := 0) (d := 6) (as := [.inl (xs (i + 1)).toInt]) (rest := []) C dL_law_800 cv_RL_87 (by decide) rfl rfl rfl rfl (Nat.le_of_ble_eq_true rfl) (Nat.le_of_ble_eq_true rfl) hcs hss hok (lz_oa lz_oa0) (w_x_seller _ 6 (by omega) _ _ _ _ e1) (fun _ hok1 => ?_)
  refine lz_m C dL_law_803 ?_
  refine lz_arg (k := 1) rfl C (by omega) dL_law_804 dL_law_805 dL_law_807 dL_law_808 dL_law_809 ?_
  refine lz_call (j := 49) (d := 6) (as := [.inl (xs (i + 1)).toInt]) (rest := [.int (Int32.ofInt a)]) C dL_law_810 cv_RL_90 (by decide) rfl rfl rfl rfl (Nat.le_of_ble_eq_true rfl) (Nat.le_of_ble_eq_true rfl) hcs hss hok1 (lz_oa lz_oa0) (w_m_seller _ 6 (by omega) _ _ _ _ e2) (fun _ hok2 => ?_)
  exact lz_eq C dL_law_813 (by decide) (k w2 h2 hok2)
theorem dL_law_818 : decode cL_law 818 = .ok (.aload_n 1, 1) := by decide +kernel
theorem dL_law_819 : decode cL_law 819 = .ok (.aload_n 0, 1) := by decide +kernel
theorem dL_law_820 : decode cL_law 820 = .ok (.iload 4, 2) := by decide +kernel
theorem dL_law_822 : decode cL_law 822 = .ok (.iconst 1, 1) := by decide +kernel
theorem dL_law_823 : decode cL_law 823 = .ok (.iadd, 1) := by decide +kernel
theorem dL_law_824 : decode cL_law 824 = .ok (.iaload, 1) := by decide +kernel
theorem dL_law_825 : decode cL_law 825 = .ok (.aload_n 0, 1) := by decide +kernel
theorem dL_law_826 : decode cL_law 826 = .ok (.iload 4, 2) := by decide +kernel
theorem dL_law_828 : decode cL_law 828 = .ok (.iconst 2, 1) := by decide +kernel
theorem dL_law_829 : decode cL_law 829 = .ok (.iadd, 1) := by decide +kernel
theorem dL_law_830 : decode cL_law 830 = .ok (.iaload, 1) := by decide +kernel
theorem dL_law_831 : decode cL_law 831 = .ok (.invokevirtual 91, 3) := by decide +kernel
theorem dL_law_834 : decode cL_law 834 = .ok (.aload_n 2, 1) := by decide +kernel
theorem dL_law_835 : decode cL_law 835 = .ok (.aload_n 0, 1) := by decide +kernel
theorem dL_law_836 : decode cL_law 836 = .ok (.iload 4, 2) := by decide +kernel
theorem dL_law_838 : decode cL_law 838 = .ok (.iconst 1, 1) := by decide +kernel
theorem dL_law_839 : decode cL_law 839 = .ok (.iadd, 1) := by decide +kernel
theorem dL_law_840 : decode cL_law 840 = .ok (.iaload, 1) := by decide +kernel
theorem dL_law_841 : decode cL_law 841 = .ok (.aload_n 0, 1) := by decide +kernel
theorem dL_law_842 : decode cL_law 842 = .ok (.iload 4, 2) := by decide +kernel
theorem dL_law_844 : decode cL_law 844 = .ok (.iconst 2, 1) := by decide +kernel
theorem dL_law_845 : decode cL_law 845 = .ok (.iadd, 1) := by decide +kernel
theorem dL_law_846 : decode cL_law 846 = .ok (.iaload, 1) := by decide +kernel
theorem dL_law_847 : decode cL_law 847 = .ok (.invokevirtual 94, 3) := by decide +kernel
theorem dL_law_850 : decode cL_law 850 = .ok (.if_icmp .eq 794, 3) := by decide +kernel
theorem lc_cure {p : Program} {l : Launch} {e : Env} {s : State} {m : MethodId} {below : List Frame} {meth : Method} {c : Code} {K : aw_K} {b L : Nat} {xs : Nat → Int32} {cells slots i : Nat} {w : aw_W} (C : lz_Cx K l p s m meth c b L xs) (hi : i + 6 ≤ L) (hcs : cells ≤ 601024) (hss : slots ≤ 7293034) (hnv : nv w) (hok : aw_okw w) (k : ∀ w2, nv w2 → aw_okw w2 → lz_W p l e s m below meth c K b (cells + 1) (slots + 6) 1644 i [] w2) : lz_W p l e s m below meth c K b cells slots 818 i [] w := by
  obtain ⟨a, w1, w2, e1, e2, h2⟩ := C_cure (N := 10000000) (Nat.le_refl _) hnv (x1 := (xs (i + 1)).toInt) (x2 := (xs (i + 2)).toInt) (aw_Ii _)
  refine lz_x C dL_law_818 ?_
  refine lz_arg (k := 1) rfl C (by omega) dL_law_819 dL_law_820 dL_law_822 dL_law_823 dL_law_824 ?_
  refine lz_arg (k := 2) rfl C (by omega) dL_law_825 dL_law_826 dL_law_828 dL_law_829 dL_law_830 ?_
  refine lz_call (j := 0) (d := 5) (as := [.inl (xs (i + 1)).toInt, .inl (xs (i + 2)).toInt]) (rest := []) C dL_law_831 cv_RL_91 (by decide) rfl rfl rfl rfl (Nat.le_of_ble_eq_true rfl) (Nat.le_of_ble_eq_true rfl) hcs hss hok (lz_oa (lz_oa lz_oa0)) (w_x_cure _ 5 (by omega) _ _ _ _ _ e1) (fun _ hok1 => ?_)
  refine lz_m C dL_law_834 ?_
  refine lz_arg (k := 1) rfl C (by omega) dL_law_835 dL_law_836 dL_law_838 dL_law_839 dL_law_840 ?_
  refine lz_arg (k := 2) rfl C (by omega) dL_law_841 dL_law_842 dL_law_844 dL_law_845 dL_law_846 ?_
  refine lz_call (j := 49) (d := 5) (as := [.inl (xs (i + 1)).toInt, .inl (xs (i + 2)).toInt]) (rest := [.int (Int32.ofInt a)]) C dL_law_847 cv_RL_94 (by decide) rfl rfl rfl rfl (Nat.le_of_ble_eq_true rfl) (Nat.le_of_ble_eq_true rfl) hcs hss hok1 (lz_oa (lz_oa lz_oa0)) (w_m_cure _ 5 (by omega) _ _ _ _ _ e2) (fun _ hok2 => ?_)
  exact lz_eq C dL_law_850 (by decide) (k w2 h2 hok2)
theorem dL_law_855 : decode cL_law 855 = .ok (.aload_n 1, 1) := by decide +kernel
theorem dL_law_856 : decode cL_law 856 = .ok (.aload_n 0, 1) := by decide +kernel
theorem dL_law_857 : decode cL_law 857 = .ok (.iload 4, 2) := by decide +kernel
theorem dL_law_859 : decode cL_law 859 = .ok (.iconst 1, 1) := by decide +kernel
theorem dL_law_860 : decode cL_law 860 = .ok (.iadd, 1) := by decide +kernel
theorem dL_law_861 : decode cL_law 861 = .ok (.iaload, 1) := by decide +kernel
theorem dL_law_862 : decode cL_law 862 = .ok (.aload_n 0, 1) := by decide +kernel
theorem dL_law_863 : decode cL_law 863 = .ok (.iload 4, 2) := by decide +kernel
theorem dL_law_865 : decode cL_law 865 = .ok (.iconst 2, 1) := by decide +kernel
theorem dL_law_866 : decode cL_law 866 = .ok (.iadd, 1) := by decide +kernel
theorem dL_law_867 : decode cL_law 867 = .ok (.iaload, 1) := by decide +kernel
theorem dL_law_868 : decode cL_law 868 = .ok (.invokevirtual 95, 3) := by decide +kernel
theorem dL_law_871 : decode cL_law 871 = .ok (.aload_n 2, 1) := by decide +kernel
theorem dL_law_872 : decode cL_law 872 = .ok (.aload_n 0, 1) := by decide +kernel
theorem dL_law_873 : decode cL_law 873 = .ok (.iload 4, 2) := by decide +kernel
theorem dL_law_875 : decode cL_law 875 = .ok (.iconst 1, 1) := by decide +kernel
theorem dL_law_876 : decode cL_law 876 = .ok (.iadd, 1) := by decide +kernel
theorem dL_law_877 : decode cL_law 877 = .ok (.iaload, 1) := by decide +kernel
theorem dL_law_878 : decode cL_law 878 = .ok (.aload_n 0, 1) := by decide +kernel
theorem dL_law_879 : decode cL_law 879 = .ok (.iload 4, 2) := by decide +kernel
theorem dL_law_881 : decode cL_law 881 = .ok (.iconst 2, 1) := by decide +kernel
theorem dL_law_882 : decode cL_law 882 = .ok (.iadd, 1) := by decide +kernel
theorem dL_law_883 : decode cL_law 883 = .ok (.iaload, 1) := by decide +kernel
theorem dL_law_884 : decode cL_law 884 = .ok (.invokevirtual 98, 3) := by decide +kernel
theorem dL_law_887 : decode cL_law 887 = .ok (.if_icmp .eq 757, 3) := by decide +kernel
theorem lc_firm {p : Program} {l : Launch} {e : Env} {s : State} {m : MethodId} {below : List Frame} {meth : Method} {c : Code} {K : aw_K} {b L : Nat} {xs : Nat → Int32} {cells slots i : Nat} {w : aw_W} (C : lz_Cx K l p s m meth c b L xs) (hi : i + 6 ≤ L) (hcs : cells ≤ 601024) (hss : slots ≤ 7293034) (hnv : nv w) (hok : aw_okw w) (k : ∀ w2, nv w2 → aw_okw w2 → lz_W p l e s m below meth c K b (cells + 1) (slots + 6) 1644 i [] w2) : lz_W p l e s m below meth c K b cells slots 855 i [] w := by
  obtain ⟨a, w1, w2, e1, e2, h2⟩ := C_firm (N := 10000000) (Nat.le_refl _) hnv (x1 := (xs (i + 1)).toInt) (x2 := (xs (i + 2)).toInt) (aw_Ii _)
  refine lz_x C dL_law_855 ?_
  refine lz_arg (k := 1) rfl C (by omega) dL_law_856 dL_law_857 dL_law_859 dL_law_860 dL_law_861 ?_
  refine lz_arg (k := 2) rfl C (by omega) dL_law_862 dL_law_863 dL_law_865 dL_law_866 dL_law_867 ?_
  refine lz_call (j := 0) (d := 5) (as := [.inl (xs (i + 1)).toInt, .inl (xs (i + 2)).toInt]) (rest := []) C dL_law_868 cv_RL_95 (by decide) rfl rfl rfl rfl (Nat.le_of_ble_eq_true rfl) (Nat.le_of_ble_eq_true rfl) hcs hss hok (lz_oa (lz_oa lz_oa0)) (w_x_firm _ 5 (by omega) _ _ _ _ _ e1) (fun _ hok1 => ?_)
  refine lz_m C dL_law_871 ?_
  refine lz_arg (k := 1) rfl C (by omega) dL_law_872 dL_law_873 dL_law_875 dL_law_876 dL_law_877 ?_
  refine lz_arg (k := 2) rfl C (by omega) dL_law_878 dL_law_879 dL_law_881 dL_law_882 dL_law_883 ?_
  refine lz_call (j := 49) (d := 5) (as := [.inl (xs (i + 1)).toInt, .inl (xs (i + 2)).toInt]) (rest := [.int (Int32.ofInt a)]) C dL_law_884 cv_RL_98 (by decide) rfl rfl rfl rfl (Nat.le_of_ble_eq_true rfl) (Nat.le_of_ble_eq_true rfl) hcs hss hok1 (lz_oa (lz_oa lz_oa0)) (w_m_firm _ 5 (by omega) _ _ _ _ _ e2) (fun _ hok2 => ?_)
  exact lz_eq C dL_law_887 (by decide) (k w2 h2 hok2)
theorem dL_law_892 : decode cL_law 892 = .ok (.aload_n 1, 1) := by decide +kernel
theorem dL_law_893 : decode cL_law 893 = .ok (.aload_n 0, 1) := by decide +kernel
theorem dL_law_894 : decode cL_law 894 = .ok (.iload 4, 2) := by decide +kernel
theorem dL_law_896 : decode cL_law 896 = .ok (.iconst 1, 1) := by decide +kernel
theorem dL_law_897 : decode cL_law 897 = .ok (.iadd, 1) := by decide +kernel
theorem dL_law_898 : decode cL_law 898 = .ok (.iaload, 1) := by decide +kernel
theorem dL_law_899 : decode cL_law 899 = .ok (.aload_n 0, 1) := by decide +kernel
theorem dL_law_900 : decode cL_law 900 = .ok (.iload 4, 2) := by decide +kernel
theorem dL_law_902 : decode cL_law 902 = .ok (.iconst 2, 1) := by decide +kernel
theorem dL_law_903 : decode cL_law 903 = .ok (.iadd, 1) := by decide +kernel
theorem dL_law_904 : decode cL_law 904 = .ok (.iaload, 1) := by decide +kernel
theorem dL_law_905 : decode cL_law 905 = .ok (.aload_n 0, 1) := by decide +kernel
theorem dL_law_906 : decode cL_law 906 = .ok (.iload 4, 2) := by decide +kernel
theorem dL_law_908 : decode cL_law 908 = .ok (.iconst 3, 1) := by decide +kernel
theorem dL_law_909 : decode cL_law 909 = .ok (.iadd, 1) := by decide +kernel
theorem dL_law_910 : decode cL_law 910 = .ok (.iaload, 1) := by decide +kernel
theorem dL_law_911 : decode cL_law 911 = .ok (.invokevirtual 99, 3) := by decide +kernel
theorem dL_law_914 : decode cL_law 914 = .ok (.aload_n 2, 1) := by decide +kernel
theorem dL_law_915 : decode cL_law 915 = .ok (.aload_n 0, 1) := by decide +kernel
theorem dL_law_916 : decode cL_law 916 = .ok (.iload 4, 2) := by decide +kernel
theorem dL_law_918 : decode cL_law 918 = .ok (.iconst 1, 1) := by decide +kernel
theorem dL_law_919 : decode cL_law 919 = .ok (.iadd, 1) := by decide +kernel
theorem dL_law_920 : decode cL_law 920 = .ok (.iaload, 1) := by decide +kernel
theorem dL_law_921 : decode cL_law 921 = .ok (.aload_n 0, 1) := by decide +kernel
theorem dL_law_922 : decode cL_law 922 = .ok (.iload 4, 2) := by decide +kernel
theorem dL_law_924 : decode cL_law 924 = .ok (.iconst 2, 1) := by decide +kernel
theorem dL_law_925 : decode cL_law 925 = .ok (.iadd, 1) := by decide +kernel
theorem dL_law_926 : decode cL_law 926 = .ok (.iaload, 1) := by decide +kernel
theorem dL_law_927 : decode cL_law 927 = .ok (.aload_n 0, 1) := by decide +kernel
theorem dL_law_928 : decode cL_law 928 = .ok (.iload 4, 2) := by decide +kernel
theorem dL_law_930 : decode cL_law 930 = .ok (.iconst 3, 1) := by decide +kernel
theorem dL_law_931 : decode cL_law 931 = .ok (.iadd, 1) := by decide +kernel
theorem dL_law_932 : decode cL_law 932 = .ok (.iaload, 1) := by decide +kernel
theorem dL_law_933 : decode cL_law 933 = .ok (.invokevirtual 102, 3) := by decide +kernel
theorem dL_law_936 : decode cL_law 936 = .ok (.if_icmp .eq 708, 3) := by decide +kernel
theorem lc_together {p : Program} {l : Launch} {e : Env} {s : State} {m : MethodId} {below : List Frame} {meth : Method} {c : Code} {K : aw_K} {b L : Nat} {xs : Nat → Int32} {cells slots i : Nat} {w : aw_W} (C : lz_Cx K l p s m meth c b L xs) (hi : i + 6 ≤ L) (hcs : cells ≤ 601024) (hss : slots ≤ 7293034) (hnv : nv w) (hok : aw_okw w) (k : ∀ w2, nv w2 → aw_okw w2 → lz_W p l e s m below meth c K b (cells + 1) (slots + 6) 1644 i [] w2) : lz_W p l e s m below meth c K b cells slots 892 i [] w := by
  obtain ⟨a, w1, w2, e1, e2, h2⟩ := C_together (N := 10000000) (Nat.le_refl _) hnv (x1 := (xs (i + 1)).toInt) (x2 := (xs (i + 2)).toInt) (x3 := (xs (i + 3)).toInt) (aw_Ii _)
  refine lz_x C dL_law_892 ?_
  refine lz_arg (k := 1) rfl C (by omega) dL_law_893 dL_law_894 dL_law_896 dL_law_897 dL_law_898 ?_
  refine lz_arg (k := 2) rfl C (by omega) dL_law_899 dL_law_900 dL_law_902 dL_law_903 dL_law_904 ?_
  refine lz_arg (k := 3) rfl C (by omega) dL_law_905 dL_law_906 dL_law_908 dL_law_909 dL_law_910 ?_
  refine lz_call (j := 0) (d := 5) (as := [.inl (xs (i + 1)).toInt, .inl (xs (i + 2)).toInt, .inl (xs (i + 3)).toInt]) (rest := []) C dL_law_911 cv_RL_99 (by decide) rfl rfl rfl rfl (Nat.le_of_ble_eq_true rfl) (Nat.le_of_ble_eq_true rfl) hcs hss hok (lz_oa (lz_oa (lz_oa lz_oa0))) (w_x_together _ 5 (by omega) _ _ _ _ _ _ e1) (fun _ hok1 => ?_)
  refine lz_m C dL_law_914 ?_
  refine lz_arg (k := 1) rfl C (by omega) dL_law_915 dL_law_916 dL_law_918 dL_law_919 dL_law_920 ?_
  refine lz_arg (k := 2) rfl C (by omega) dL_law_921 dL_law_922 dL_law_924 dL_law_925 dL_law_926 ?_
  refine lz_arg (k := 3) rfl C (by omega) dL_law_927 dL_law_928 dL_law_930 dL_law_931 dL_law_932 ?_
  refine lz_call (j := 49) (d := 65) (as := [.inl (xs (i + 1)).toInt, .inl (xs (i + 2)).toInt, .inl (xs (i + 3)).toInt]) (rest := [.int (Int32.ofInt a)]) C dL_law_933 cv_RL_102 (by decide) rfl rfl rfl rfl (Nat.le_of_ble_eq_true rfl) (Nat.le_of_ble_eq_true rfl) hcs hss hok1 (lz_oa (lz_oa (lz_oa lz_oa0))) (w_m_together _ 65 (by omega) _ _ _ _ _ _ e2) (fun _ hok2 => ?_)
  exact lz_eq C dL_law_936 (by decide) (k w2 h2 hok2)
theorem dL_law_941 : decode cL_law 941 = .ok (.aload_n 1, 1) := by decide +kernel
theorem dL_law_942 : decode cL_law 942 = .ok (.aload_n 0, 1) := by decide +kernel
theorem dL_law_943 : decode cL_law 943 = .ok (.iload 4, 2) := by decide +kernel
theorem dL_law_945 : decode cL_law 945 = .ok (.iconst 1, 1) := by decide +kernel
theorem dL_law_946 : decode cL_law 946 = .ok (.iadd, 1) := by decide +kernel
theorem dL_law_947 : decode cL_law 947 = .ok (.iaload, 1) := by decide +kernel
theorem dL_law_948 : decode cL_law 948 = .ok (.aload_n 0, 1) := by decide +kernel
theorem dL_law_949 : decode cL_law 949 = .ok (.iload 4, 2) := by decide +kernel
theorem dL_law_951 : decode cL_law 951 = .ok (.iconst 2, 1) := by decide +kernel
theorem dL_law_952 : decode cL_law 952 = .ok (.iadd, 1) := by decide +kernel
theorem dL_law_953 : decode cL_law 953 = .ok (.iaload, 1) := by decide +kernel
theorem dL_law_954 : decode cL_law 954 = .ok (.invokevirtual 103, 3) := by decide +kernel
theorem dL_law_957 : decode cL_law 957 = .ok (.aload_n 2, 1) := by decide +kernel
theorem dL_law_958 : decode cL_law 958 = .ok (.aload_n 0, 1) := by decide +kernel
theorem dL_law_959 : decode cL_law 959 = .ok (.iload 4, 2) := by decide +kernel
theorem dL_law_961 : decode cL_law 961 = .ok (.iconst 1, 1) := by decide +kernel
theorem dL_law_962 : decode cL_law 962 = .ok (.iadd, 1) := by decide +kernel
theorem dL_law_963 : decode cL_law 963 = .ok (.iaload, 1) := by decide +kernel
theorem dL_law_964 : decode cL_law 964 = .ok (.aload_n 0, 1) := by decide +kernel
theorem dL_law_965 : decode cL_law 965 = .ok (.iload 4, 2) := by decide +kernel
theorem dL_law_967 : decode cL_law 967 = .ok (.iconst 2, 1) := by decide +kernel
theorem dL_law_968 : decode cL_law 968 = .ok (.iadd, 1) := by decide +kernel
theorem dL_law_969 : decode cL_law 969 = .ok (.iaload, 1) := by decide +kernel
theorem dL_law_970 : decode cL_law 970 = .ok (.invokevirtual 106, 3) := by decide +kernel
theorem dL_law_973 : decode cL_law 973 = .ok (.if_icmp .eq 671, 3) := by decide +kernel
theorem lc_treason {p : Program} {l : Launch} {e : Env} {s : State} {m : MethodId} {below : List Frame} {meth : Method} {c : Code} {K : aw_K} {b L : Nat} {xs : Nat → Int32} {cells slots i : Nat} {w : aw_W} (C : lz_Cx K l p s m meth c b L xs) (hi : i + 6 ≤ L) (hcs : cells ≤ 601024) (hss : slots ≤ 7293034) (hnv : nv w) (hok : aw_okw w) (k : ∀ w2, nv w2 → aw_okw w2 → lz_W p l e s m below meth c K b (cells + 1) (slots + 6) 1644 i [] w2) : lz_W p l e s m below meth c K b cells slots 941 i [] w := by
  obtain ⟨a, w1, w2, e1, e2, h2⟩ := C_treason (N := 10000000) (Nat.le_refl _) hnv (x1 := (xs (i + 1)).toInt) (x2 := (xs (i + 2)).toInt) (aw_Ii _)
  refine lz_x C dL_law_941 ?_
  refine lz_arg (k := 1) rfl C (by omega) dL_law_942 dL_law_943 dL_law_945 dL_law_946 dL_law_947 ?_
  refine lz_arg (k := 2) rfl C (by omega) dL_law_948 dL_law_949 dL_law_951 dL_law_952 dL_law_953 ?_
  refine lz_call (j := 0) (d := 5) (as := [.inl (xs (i + 1)).toInt, .inl (xs (i + 2)).toInt]) (rest := []) C dL_law_954 cv_RL_103 (by decide) rfl rfl rfl rfl (Nat.le_of_ble_eq_true rfl) (Nat.le_of_ble_eq_true rfl) hcs hss hok (lz_oa (lz_oa lz_oa0)) (w_x_treason _ 5 (by omega) _ _ _ _ _ e1) (fun _ hok1 => ?_)
  refine lz_m C dL_law_957 ?_
  refine lz_arg (k := 1) rfl C (by omega) dL_law_958 dL_law_959 dL_law_961 dL_law_962 dL_law_963 ?_
  refine lz_arg (k := 2) rfl C (by omega) dL_law_964 dL_law_965 dL_law_967 dL_law_968 dL_law_969 ?_
  refine lz_call (j := 49) (d := 65) (as := [.inl (xs (i + 1)).toInt, .inl (xs (i + 2)).toInt]) (rest := [.int (Int32.ofInt a)]) C dL_law_970 cv_RL_106 (by decide) rfl rfl rfl rfl (Nat.le_of_ble_eq_true rfl) (Nat.le_of_ble_eq_true rfl) hcs hss hok1 (lz_oa (lz_oa lz_oa0)) (w_m_treason _ 65 (by omega) _ _ _ _ _ e2) (fun _ hok2 => ?_)
  exact lz_eq C dL_law_973 (by decide) (k w2 h2 hok2)
