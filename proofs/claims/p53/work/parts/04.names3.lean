set_option maxRecDepth 20000 in
theorem gX6_isSafe_X6_bothOf : GoodIn wsX6_isSafe (wsV RX6 140 RX6 yX6_bothOf wsX6_bothOf) := goodIn_app (goodIn_of _ (by decide +kernel)) ggX6_isSafe_X6_bothOf
set_option maxRecDepth 20000 in
theorem ggX6_isSafe_X6_everyone : GoodIn wsX6_isSafe wsX6_everyone := goodIn_r _ [11, 12, 47, 48, 49, 50, 51, 52, 53, 54, 55, 56, 57] (by decide +kernel) (by decide +kernel)
set_option maxRecDepth 20000 in
theorem gX6_isSafe_X6_everyone : GoodIn wsX6_isSafe (wsV RX6 124 RX6 yX6_everyone wsX6_everyone) := goodIn_app (goodIn_of _ (by decide +kernel)) ggX6_isSafe_X6_everyone
set_option maxRecDepth 20000 in
theorem ggX6_isSafe_X6_isHeardRightly : GoodIn wsX6_isSafe wsX6_isHeardRightly := goodIn_r _ [16, 7, 17, 6, 18, 19, 20, 4, 21, 12, 22, 23, 24, 25, 26, 27, 28, 29, 30, 31, 32, 33, 34, 35, 36, 37, 38, 39, 40, 41, 42, 43, 44, 45, 46, 47, 48, 49, 50, 51, 52, 53, 54, 55, 56, 57] (by decide +kernel) (by decide +kernel)
set_option maxRecDepth 20000 in
theorem gX6_isSafe_X6_isHeardRightly : GoodIn wsX6_isSafe (wsV RX6 143 RX6 yX6_isHeardRightly wsX6_isHeardRightly) := goodIn_app (goodIn_of _ (by decide +kernel)) ggX6_isSafe_X6_isHeardRightly
theorem dX6_isSafe_0 : decode cX6_isSafe 0 = .ok (.iload_n 2, 1) := by decide +kernel
theorem dX6_isSafe_1 : decode cX6_isSafe 1 = .ok (.aload_n 0, 1) := by decide +kernel
theorem dX6_isSafe_2 : decode cX6_isSafe 2 = .ok (.iload_n 1, 1) := by decide +kernel
theorem dX6_isSafe_3 : decode cX6_isSafe 3 = .ok (.invokevirtual 140, 3) := by decide +kernel
theorem dX6_isSafe_6 : decode cX6_isSafe 6 = .ok (.iand, 1) := by decide +kernel
theorem dX6_isSafe_7 : decode cX6_isSafe 7 = .ok (.ifCond .ne 21, 3) := by decide +kernel
theorem dX6_isSafe_10 : decode cX6_isSafe 10 = .ok (.aload_n 0, 1) := by decide +kernel
theorem dX6_isSafe_11 : decode cX6_isSafe 11 = .ok (.iload_n 1, 1) := by decide +kernel
theorem dX6_isSafe_12 : decode cX6_isSafe 12 = .ok (.aload_n 0, 1) := by decide +kernel
theorem dX6_isSafe_13 : decode cX6_isSafe 13 = .ok (.invokevirtual 124, 3) := by decide +kernel
theorem dX6_isSafe_16 : decode cX6_isSafe 16 = .ok (.iload_n 2, 1) := by decide +kernel
theorem dX6_isSafe_17 : decode cX6_isSafe 17 = .ok (.iconst 0, 1) := by decide +kernel
theorem dX6_isSafe_18 : decode cX6_isSafe 18 = .ok (.invokevirtual 143, 3) := by decide +kernel
theorem dX6_isSafe_21 : decode cX6_isSafe 21 = .ok (.ifCond .eq 7, 3) := by decide +kernel
theorem dX6_isSafe_24 : decode cX6_isSafe 24 = .ok (.iconst 1, 1) := by decide +kernel
theorem dX6_isSafe_25 : decode cX6_isSafe 25 = .ok (.goto 4, 3) := by decide +kernel
theorem dX6_isSafe_28 : decode cX6_isSafe 28 = .ok (.iconst 0, 1) := by decide +kernel
theorem dX6_isSafe_29 : decode cX6_isSafe 29 = .ok (.ireturn, 1) := by decide +kernel
set_option maxRecDepth 20000 in
theorem ggX6_isHeardRightly_X6_whoHearOf : GoodIn wsX6_isHeardRightly wsX6_whoHearOf := goodIn_r _ [8, 9, 10, 11, 12, 13, 14, 15, 16, 17, 18, 19, 20, 7, 21, 22, 23, 24, 25, 26, 27, 28, 29, 30, 31, 32, 33, 34, 35, 36, 37, 38, 39, 40, 41, 42, 43, 44, 45] (by decide +kernel) (by decide +kernel)
set_option maxRecDepth 20000 in
theorem gX6_isHeardRightly_X6_whoHearOf : GoodIn wsX6_isHeardRightly (wsV RX6 128 RX6 yX6_whoHearOf wsX6_whoHearOf) := goodIn_app (goodIn_of _ (by decide +kernel)) ggX6_isHeardRightly_X6_whoHearOf
theorem dX6_isHeardRightly_0 : decode cX6_isHeardRightly 0 = .ok (.iload_n 2, 1) := by decide +kernel
theorem dX6_isHeardRightly_1 : decode cX6_isHeardRightly 1 = .ok (.iconst 1, 1) := by decide +kernel
theorem dX6_isHeardRightly_2 : decode cX6_isHeardRightly 2 = .ok (.aload_n 0, 1) := by decide +kernel
theorem dX6_isHeardRightly_3 : decode cX6_isHeardRightly 3 = .ok (.getfield 27, 3) := by decide +kernel
theorem dX6_isHeardRightly_6 : decode cX6_isHeardRightly 6 = .ok (.iload_n 1, 1) := by decide +kernel
theorem dX6_isHeardRightly_7 : decode cX6_isHeardRightly 7 = .ok (.iaload, 1) := by decide +kernel
theorem dX6_isHeardRightly_8 : decode cX6_isHeardRightly 8 = .ok (.ishl, 1) := by decide +kernel
theorem dX6_isHeardRightly_9 : decode cX6_isHeardRightly 9 = .ok (.iand, 1) := by decide +kernel
theorem dX6_isHeardRightly_10 : decode cX6_isHeardRightly 10 = .ok (.istore 5, 2) := by decide +kernel
theorem dX6_isHeardRightly_12 : decode cX6_isHeardRightly 12 = .ok (.aload_n 0, 1) := by decide +kernel
theorem dX6_isHeardRightly_13 : decode cX6_isHeardRightly 13 = .ok (.iload 5, 2) := by decide +kernel
theorem dX6_isHeardRightly_15 : decode cX6_isHeardRightly 15 = .ok (.iload_n 2, 1) := by decide +kernel
theorem dX6_isHeardRightly_16 : decode cX6_isHeardRightly 16 = .ok (.aload_n 0, 1) := by decide +kernel
theorem dX6_isHeardRightly_17 : decode cX6_isHeardRightly 17 = .ok (.getfield 30, 3) := by decide +kernel
theorem dX6_isHeardRightly_20 : decode cX6_isHeardRightly 20 = .ok (.iload_n 1, 1) := by decide +kernel
theorem dX6_isHeardRightly_21 : decode cX6_isHeardRightly 21 = .ok (.iaload, 1) := by decide +kernel
theorem dX6_isHeardRightly_22 : decode cX6_isHeardRightly 22 = .ok (.iand, 1) := by decide +kernel
theorem dX6_isHeardRightly_23 : decode cX6_isHeardRightly 23 = .ok (.ior, 1) := by decide +kernel
theorem dX6_isHeardRightly_24 : decode cX6_isHeardRightly 24 = .ok (.aload_n 0, 1) := by decide +kernel
theorem dX6_isHeardRightly_25 : decode cX6_isHeardRightly 25 = .ok (.getfield 24, 3) := by decide +kernel
theorem dX6_isHeardRightly_28 : decode cX6_isHeardRightly 28 = .ok (.iload_n 1, 1) := by decide +kernel
theorem dX6_isHeardRightly_29 : decode cX6_isHeardRightly 29 = .ok (.iaload, 1) := by decide +kernel
theorem dX6_isHeardRightly_30 : decode cX6_isHeardRightly 30 = .ok (.iload_n 3, 1) := by decide +kernel
theorem dX6_isHeardRightly_31 : decode cX6_isHeardRightly 31 = .ok (.iload 4, 2) := by decide +kernel
theorem dX6_isHeardRightly_33 : decode cX6_isHeardRightly 33 = .ok (.invokevirtual 128, 3) := by decide +kernel
theorem dX6_isHeardRightly_36 : decode cX6_isHeardRightly 36 = .ok (.iload 5, 2) := by decide +kernel
theorem dX6_isHeardRightly_38 : decode cX6_isHeardRightly 38 = .ok (.if_icmp .ne 7, 3) := by decide +kernel
theorem dX6_isHeardRightly_41 : decode cX6_isHeardRightly 41 = .ok (.iconst 1, 1) := by decide +kernel
theorem dX6_isHeardRightly_42 : decode cX6_isHeardRightly 42 = .ok (.goto 4, 3) := by decide +kernel
theorem dX6_isHeardRightly_45 : decode cX6_isHeardRightly 45 = .ok (.iconst 0, 1) := by decide +kernel
theorem dX6_isHeardRightly_46 : decode cX6_isHeardRightly 46 = .ok (.ireturn, 1) := by decide +kernel
set_option maxRecDepth 20000 in
theorem ggX6_goTogether_X6_bothOf : GoodIn wsX6_goTogether wsX6_bothOf := goodIn_r _ [7, 2, 8, 48, 49, 50, 51, 52, 53, 54, 55, 56, 57, 58] (by decide +kernel) (by decide +kernel)
set_option maxRecDepth 20000 in
theorem gX6_goTogether_X6_bothOf : GoodIn wsX6_goTogether (wsV RX6 140 RX6 yX6_bothOf wsX6_bothOf) := goodIn_app (goodIn_of _ (by decide +kernel)) ggX6_goTogether_X6_bothOf
set_option maxRecDepth 20000 in
theorem ggX6_goTogether_X6_everyone : GoodIn wsX6_goTogether wsX6_everyone := goodIn_r _ [12, 13, 48, 49, 50, 51, 52, 53, 54, 55, 56, 57, 58] (by decide +kernel) (by decide +kernel)
set_option maxRecDepth 20000 in
theorem gX6_goTogether_X6_everyone : GoodIn wsX6_goTogether (wsV RX6 124 RX6 yX6_everyone wsX6_everyone) := goodIn_app (goodIn_of _ (by decide +kernel)) ggX6_goTogether_X6_everyone
set_option maxRecDepth 20000 in
theorem ggX6_goTogether_X6_isHeardRightly : GoodIn wsX6_goTogether wsX6_isHeardRightly := goodIn_r _ [17, 8, 18, 2, 19, 20, 21, 6, 22, 13, 23, 24, 25, 26, 27, 28, 29, 30, 31, 32, 33, 34, 35, 36, 37, 38, 39, 40, 41, 42, 43, 44, 45, 46, 47, 48, 49, 50, 51, 52, 53, 54, 55, 56, 57, 58] (by decide +kernel) (by decide +kernel)
set_option maxRecDepth 20000 in
theorem gX6_goTogether_X6_isHeardRightly : GoodIn wsX6_goTogether (wsV RX6 143 RX6 yX6_isHeardRightly wsX6_isHeardRightly) := goodIn_app (goodIn_of _ (by decide +kernel)) ggX6_goTogether_X6_isHeardRightly
theorem dX6_goTogether_0 : decode cX6_goTogether 0 = .ok (.iconst 0, 1) := by decide +kernel
theorem dX6_goTogether_1 : decode cX6_goTogether 1 = .ok (.istore_n 2, 1) := by decide +kernel
theorem dX6_goTogether_2 : decode cX6_goTogether 2 = .ok (.iconst 0, 1) := by decide +kernel
theorem dX6_goTogether_3 : decode cX6_goTogether 3 = .ok (.istore_n 3, 1) := by decide +kernel
theorem dX6_goTogether_4 : decode cX6_goTogether 4 = .ok (.iconst 0, 1) := by decide +kernel
theorem dX6_goTogether_5 : decode cX6_goTogether 5 = .ok (.istore 4, 2) := by decide +kernel
theorem dX6_goTogether_7 : decode cX6_goTogether 7 = .ok (.iload 4, 2) := by decide +kernel
theorem dX6_goTogether_9 : decode cX6_goTogether 9 = .ok (.aload_n 0, 1) := by decide +kernel
theorem dX6_goTogether_10 : decode cX6_goTogether 10 = .ok (.getfield 47, 3) := by decide +kernel
theorem dX6_goTogether_13 : decode cX6_goTogether 13 = .ok (.if_icmp .ge 52, 3) := by decide +kernel
theorem dX6_goTogether_16 : decode cX6_goTogether 16 = .ok (.iload_n 1, 1) := by decide +kernel
theorem dX6_goTogether_17 : decode cX6_goTogether 17 = .ok (.iload 4, 2) := by decide +kernel
theorem dX6_goTogether_19 : decode cX6_goTogether 19 = .ok (.ishr, 1) := by decide +kernel
theorem dX6_goTogether_20 : decode cX6_goTogether 20 = .ok (.iconst 1, 1) := by decide +kernel
theorem dX6_goTogether_21 : decode cX6_goTogether 21 = .ok (.iand, 1) := by decide +kernel
theorem dX6_goTogether_22 : decode cX6_goTogether 22 = .ok (.ifCond .eq 37, 3) := by decide +kernel
theorem dX6_goTogether_25 : decode cX6_goTogether 25 = .ok (.iload_n 2, 1) := by decide +kernel
theorem dX6_goTogether_26 : decode cX6_goTogether 26 = .ok (.aload_n 0, 1) := by decide +kernel
theorem dX6_goTogether_27 : decode cX6_goTogether 27 = .ok (.iload 4, 2) := by decide +kernel
theorem dX6_goTogether_29 : decode cX6_goTogether 29 = .ok (.invokevirtual 140, 3) := by decide +kernel
theorem dX6_goTogether_32 : decode cX6_goTogether 32 = .ok (.iand, 1) := by decide +kernel
theorem dX6_goTogether_33 : decode cX6_goTogether 33 = .ok (.ifCond .eq 5, 3) := by decide +kernel
theorem dX6_goTogether_36 : decode cX6_goTogether 36 = .ok (.iconst 0, 1) := by decide +kernel
theorem dX6_goTogether_37 : decode cX6_goTogether 37 = .ok (.ireturn, 1) := by decide +kernel
theorem dX6_goTogether_38 : decode cX6_goTogether 38 = .ok (.iload_n 2, 1) := by decide +kernel
theorem dX6_goTogether_39 : decode cX6_goTogether 39 = .ok (.aload_n 0, 1) := by decide +kernel
theorem dX6_goTogether_40 : decode cX6_goTogether 40 = .ok (.iload 4, 2) := by decide +kernel
theorem dX6_goTogether_42 : decode cX6_goTogether 42 = .ok (.invokevirtual 140, 3) := by decide +kernel
theorem dX6_goTogether_45 : decode cX6_goTogether 45 = .ok (.ior, 1) := by decide +kernel
theorem dX6_goTogether_46 : decode cX6_goTogether 46 = .ok (.istore_n 2, 1) := by decide +kernel
theorem dX6_goTogether_47 : decode cX6_goTogether 47 = .ok (.iload_n 3, 1) := by decide +kernel
theorem dX6_goTogether_48 : decode cX6_goTogether 48 = .ok (.iconst 1, 1) := by decide +kernel
theorem dX6_goTogether_49 : decode cX6_goTogether 49 = .ok (.aload_n 0, 1) := by decide +kernel
theorem dX6_goTogether_50 : decode cX6_goTogether 50 = .ok (.getfield 24, 3) := by decide +kernel
theorem dX6_goTogether_53 : decode cX6_goTogether 53 = .ok (.iload 4, 2) := by decide +kernel
theorem dX6_goTogether_55 : decode cX6_goTogether 55 = .ok (.iaload, 1) := by decide +kernel
theorem dX6_goTogether_56 : decode cX6_goTogether 56 = .ok (.ishl, 1) := by decide +kernel
theorem dX6_goTogether_57 : decode cX6_goTogether 57 = .ok (.ior, 1) := by decide +kernel
theorem dX6_goTogether_58 : decode cX6_goTogether 58 = .ok (.istore_n 3, 1) := by decide +kernel
theorem dX6_goTogether_59 : decode cX6_goTogether 59 = .ok (.iinc 4 1, 3) := by decide +kernel
theorem dX6_goTogether_62 : decode cX6_goTogether 62 = .ok (.goto (-55), 3) := by decide +kernel
theorem dX6_goTogether_65 : decode cX6_goTogether 65 = .ok (.iconst 0, 1) := by decide +kernel
theorem dX6_goTogether_66 : decode cX6_goTogether 66 = .ok (.istore 4, 2) := by decide +kernel
theorem dX6_goTogether_68 : decode cX6_goTogether 68 = .ok (.iload 4, 2) := by decide +kernel
theorem dX6_goTogether_70 : decode cX6_goTogether 70 = .ok (.aload_n 0, 1) := by decide +kernel
theorem dX6_goTogether_71 : decode cX6_goTogether 71 = .ok (.getfield 47, 3) := by decide +kernel
theorem dX6_goTogether_74 : decode cX6_goTogether 74 = .ok (.if_icmp .ge 51, 3) := by decide +kernel
theorem dX6_goTogether_77 : decode cX6_goTogether 77 = .ok (.iload_n 3, 1) := by decide +kernel
theorem dX6_goTogether_78 : decode cX6_goTogether 78 = .ok (.iconst 1, 1) := by decide +kernel
theorem dX6_goTogether_79 : decode cX6_goTogether 79 = .ok (.aload_n 0, 1) := by decide +kernel
theorem dX6_goTogether_80 : decode cX6_goTogether 80 = .ok (.getfield 24, 3) := by decide +kernel
theorem dX6_goTogether_83 : decode cX6_goTogether 83 = .ok (.iload 4, 2) := by decide +kernel
theorem dX6_goTogether_85 : decode cX6_goTogether 85 = .ok (.iaload, 1) := by decide +kernel
theorem dX6_goTogether_86 : decode cX6_goTogether 86 = .ok (.ishl, 1) := by decide +kernel
theorem dX6_goTogether_87 : decode cX6_goTogether 87 = .ok (.iconst (-1), 1) := by decide +kernel
theorem dX6_goTogether_88 : decode cX6_goTogether 88 = .ok (.ixor, 1) := by decide +kernel
theorem dX6_goTogether_89 : decode cX6_goTogether 89 = .ok (.iand, 1) := by decide +kernel
theorem dX6_goTogether_90 : decode cX6_goTogether 90 = .ok (.istore 5, 2) := by decide +kernel
theorem dX6_goTogether_92 : decode cX6_goTogether 92 = .ok (.iload_n 1, 1) := by decide +kernel
theorem dX6_goTogether_93 : decode cX6_goTogether 93 = .ok (.iload 4, 2) := by decide +kernel
theorem dX6_goTogether_95 : decode cX6_goTogether 95 = .ok (.ishr, 1) := by decide +kernel
theorem dX6_goTogether_96 : decode cX6_goTogether 96 = .ok (.iconst 1, 1) := by decide +kernel
theorem dX6_goTogether_97 : decode cX6_goTogether 97 = .ok (.iand, 1) := by decide +kernel
theorem dX6_goTogether_98 : decode cX6_goTogether 98 = .ok (.ifCond .eq 21, 3) := by decide +kernel
theorem dX6_goTogether_101 : decode cX6_goTogether 101 = .ok (.aload_n 0, 1) := by decide +kernel
theorem dX6_goTogether_102 : decode cX6_goTogether 102 = .ok (.iload 4, 2) := by decide +kernel
theorem dX6_goTogether_104 : decode cX6_goTogether 104 = .ok (.aload_n 0, 1) := by decide +kernel
theorem dX6_goTogether_105 : decode cX6_goTogether 105 = .ok (.invokevirtual 124, 3) := by decide +kernel
theorem dX6_goTogether_108 : decode cX6_goTogether 108 = .ok (.iconst 0, 1) := by decide +kernel
theorem dX6_goTogether_109 : decode cX6_goTogether 109 = .ok (.iload 5, 2) := by decide +kernel
theorem dX6_goTogether_111 : decode cX6_goTogether 111 = .ok (.invokevirtual 143, 3) := by decide +kernel
theorem dX6_goTogether_114 : decode cX6_goTogether 114 = .ok (.ifCond .ne 5, 3) := by decide +kernel
theorem dX6_goTogether_117 : decode cX6_goTogether 117 = .ok (.iconst 0, 1) := by decide +kernel
theorem dX6_goTogether_118 : decode cX6_goTogether 118 = .ok (.ireturn, 1) := by decide +kernel
theorem dX6_goTogether_119 : decode cX6_goTogether 119 = .ok (.iinc 4 1, 3) := by decide +kernel
theorem dX6_goTogether_122 : decode cX6_goTogether 122 = .ok (.goto (-54), 3) := by decide +kernel
theorem dX6_goTogether_125 : decode cX6_goTogether 125 = .ok (.iconst 1, 1) := by decide +kernel
theorem dX6_goTogether_126 : decode cX6_goTogether 126 = .ok (.ireturn, 1) := by decide +kernel
theorem dX7_init_0 : decode cX7_init 0 = .ok (.aload_n 0, 1) := by decide +kernel
theorem dX7_init_1 : decode cX7_init 1 = .ok (.invokespecial 1, 3) := by decide +kernel
theorem dX7_init_4 : decode cX7_init 4 = .ok (.aload_n 0, 1) := by decide +kernel
theorem dX7_init_5 : decode cX7_init 5 = .ok (.bipush 80, 2) := by decide +kernel
theorem dX7_init_7 : decode cX7_init 7 = .ok (.newarray .byte, 2) := by decide +kernel
theorem dX7_init_9 : decode cX7_init 9 = .ok (.putfield 9, 3) := by decide +kernel
theorem dX7_init_12 : decode cX7_init 12 = .ok (.aload_n 0, 1) := by decide +kernel
theorem dX7_init_13 : decode cX7_init 13 = .ok (.iconst (-1), 1) := by decide +kernel
theorem dX7_init_14 : decode cX7_init 14 = .ok (.putfield 13, 3) := by decide +kernel
theorem dX7_init_17 : decode cX7_init 17 = .ok (.return_, 1) := by decide +kernel
theorem dX7_isMissing_0 : decode cX7_isMissing 0 = .ok (.aload_n 0, 1) := by decide +kernel
theorem dX7_isMissing_1 : decode cX7_isMissing 1 = .ok (.getfield 13, 3) := by decide +kernel
theorem dX7_isMissing_4 : decode cX7_isMissing 4 = .ok (.ifCond .ge 7, 3) := by decide +kernel
theorem dX7_isMissing_7 : decode cX7_isMissing 7 = .ok (.iconst 1, 1) := by decide +kernel
theorem dX7_isMissing_8 : decode cX7_isMissing 8 = .ok (.goto 4, 3) := by decide +kernel
theorem dX7_isMissing_11 : decode cX7_isMissing 11 = .ok (.iconst 0, 1) := by decide +kernel
theorem dX7_isMissing_12 : decode cX7_isMissing 12 = .ok (.ireturn, 1) := by decide +kernel
theorem dX7_has_0 : decode cX7_has 0 = .ok (.iload_n 1, 1) := by decide +kernel
theorem dX7_has_1 : decode cX7_has 1 = .ok (.ifCond .lt 15, 3) := by decide +kernel
theorem dX7_has_4 : decode cX7_has 4 = .ok (.iload_n 1, 1) := by decide +kernel
theorem dX7_has_5 : decode cX7_has 5 = .ok (.aload_n 0, 1) := by decide +kernel
theorem dX7_has_6 : decode cX7_has 6 = .ok (.getfield 13, 3) := by decide +kernel
theorem dX7_has_9 : decode cX7_has 9 = .ok (.if_icmp .ge 7, 3) := by decide +kernel
theorem dX7_has_12 : decode cX7_has 12 = .ok (.iconst 1, 1) := by decide +kernel
theorem dX7_has_13 : decode cX7_has 13 = .ok (.goto 4, 3) := by decide +kernel
theorem dX7_has_16 : decode cX7_has 16 = .ok (.iconst 0, 1) := by decide +kernel
theorem dX7_has_17 : decode cX7_has 17 = .ok (.ireturn, 1) := by decide +kernel
theorem dX7_begin_0 : decode cX7_begin 0 = .ok (.aload_n 0, 1) := by decide +kernel
theorem dX7_begin_1 : decode cX7_begin 1 = .ok (.iload_n 1, 1) := by decide +kernel
theorem dX7_begin_2 : decode cX7_begin 2 = .ok (.putfield 13, 3) := by decide +kernel
theorem dX7_begin_5 : decode cX7_begin 5 = .ok (.iconst 0, 1) := by decide +kernel
theorem dX7_begin_6 : decode cX7_begin 6 = .ok (.istore_n 2, 1) := by decide +kernel
theorem dX7_begin_7 : decode cX7_begin 7 = .ok (.iload_n 2, 1) := by decide +kernel
theorem dX7_begin_8 : decode cX7_begin 8 = .ok (.bipush 80, 2) := by decide +kernel
theorem dX7_begin_10 : decode cX7_begin 10 = .ok (.if_icmp .ge 17, 3) := by decide +kernel
theorem dX7_begin_13 : decode cX7_begin 13 = .ok (.aload_n 0, 1) := by decide +kernel
theorem dX7_begin_14 : decode cX7_begin 14 = .ok (.getfield 9, 3) := by decide +kernel
theorem dX7_begin_17 : decode cX7_begin 17 = .ok (.iload_n 2, 1) := by decide +kernel
theorem dX7_begin_18 : decode cX7_begin 18 = .ok (.bipush 32, 2) := by decide +kernel
theorem dX7_begin_20 : decode cX7_begin 20 = .ok (.bastore, 1) := by decide +kernel
theorem dX7_begin_21 : decode cX7_begin 21 = .ok (.iinc 2 1, 3) := by decide +kernel
theorem dX7_begin_24 : decode cX7_begin 24 = .ok (.goto (-17), 3) := by decide +kernel
theorem dX7_begin_27 : decode cX7_begin 27 = .ok (.return_, 1) := by decide +kernel
set_option maxRecDepth 20000 in
theorem ggX7_sign_X7_has : GoodIn wsX7_sign wsX7_has := goodIn_r _ [6, 7, 8, 9] (by decide +kernel) (by decide +kernel)
set_option maxRecDepth 20000 in
theorem gX7_sign_X7_has : GoodIn wsX7_sign (wsV RX7 17 RX7 yX7_has wsX7_has) := goodIn_app (goodIn_of _ (by decide +kernel)) ggX7_sign_X7_has
theorem dX7_sign_0 : decode cX7_sign 0 = .ok (.aload_n 0, 1) := by decide +kernel
theorem dX7_sign_1 : decode cX7_sign 1 = .ok (.iload_n 1, 1) := by decide +kernel
theorem dX7_sign_2 : decode cX7_sign 2 = .ok (.invokevirtual 17, 3) := by decide +kernel
theorem dX7_sign_5 : decode cX7_sign 5 = .ok (.ifCond .eq 12, 3) := by decide +kernel
theorem dX7_sign_8 : decode cX7_sign 8 = .ok (.aload_n 0, 1) := by decide +kernel
theorem dX7_sign_9 : decode cX7_sign 9 = .ok (.getfield 9, 3) := by decide +kernel
theorem dX7_sign_12 : decode cX7_sign 12 = .ok (.iload_n 1, 1) := by decide +kernel
theorem dX7_sign_13 : decode cX7_sign 13 = .ok (.baload, 1) := by decide +kernel
theorem dX7_sign_14 : decode cX7_sign 14 = .ok (.goto 6, 3) := by decide +kernel
theorem dX7_sign_17 : decode cX7_sign 17 = .ok (.sipush 1000, 3) := by decide +kernel
theorem dX7_sign_20 : decode cX7_sign 20 = .ok (.ireturn, 1) := by decide +kernel
set_option maxRecDepth 20000 in
theorem ggX7_isFigure_X7_sign : GoodIn wsX7_isFigure wsX7_sign := goodIn_r _ [5, 6, 7, 8, 9, 4, 10, 11, 12, 13] (by decide +kernel) (by decide +kernel)
set_option maxRecDepth 20000 in
theorem gX7_isFigure_X7_sign : GoodIn wsX7_isFigure (wsV RX7 21 RX7 yX7_sign wsX7_sign) := goodIn_app (goodIn_of _ (by decide +kernel)) ggX7_isFigure_X7_sign
theorem dX7_isFigure_0 : decode cX7_isFigure 0 = .ok (.aload_n 0, 1) := by decide +kernel
theorem dX7_isFigure_1 : decode cX7_isFigure 1 = .ok (.iload_n 1, 1) := by decide +kernel
theorem dX7_isFigure_2 : decode cX7_isFigure 2 = .ok (.invokevirtual 21, 3) := by decide +kernel
theorem dX7_isFigure_5 : decode cX7_isFigure 5 = .ok (.bipush 48, 2) := by decide +kernel
theorem dX7_isFigure_7 : decode cX7_isFigure 7 = .ok (.if_icmp .lt 17, 3) := by decide +kernel
theorem dX7_isFigure_10 : decode cX7_isFigure 10 = .ok (.aload_n 0, 1) := by decide +kernel
theorem dX7_isFigure_11 : decode cX7_isFigure 11 = .ok (.iload_n 1, 1) := by decide +kernel
theorem dX7_isFigure_12 : decode cX7_isFigure 12 = .ok (.invokevirtual 21, 3) := by decide +kernel
theorem dX7_isFigure_15 : decode cX7_isFigure 15 = .ok (.bipush 57, 2) := by decide +kernel
theorem dX7_isFigure_17 : decode cX7_isFigure 17 = .ok (.if_icmp .gt 7, 3) := by decide +kernel
theorem dX7_isFigure_20 : decode cX7_isFigure 20 = .ok (.iconst 1, 1) := by decide +kernel
theorem dX7_isFigure_21 : decode cX7_isFigure 21 = .ok (.goto 4, 3) := by decide +kernel
theorem dX7_isFigure_24 : decode cX7_isFigure 24 = .ok (.iconst 0, 1) := by decide +kernel
theorem dX7_isFigure_25 : decode cX7_isFigure 25 = .ok (.ireturn, 1) := by decide +kernel
set_option maxRecDepth 20000 in
theorem ggX7_pastBlanks_X7_sign : GoodIn wsX7_pastBlanks wsX7_sign := goodIn_r _ [6, 7, 8, 9, 10, 5, 11, 1, 12, 13] (by decide +kernel) (by decide +kernel)
set_option maxRecDepth 20000 in
theorem gX7_pastBlanks_X7_sign : GoodIn wsX7_pastBlanks (wsV RX7 21 RX7 yX7_sign wsX7_sign) := goodIn_app (goodIn_of _ (by decide +kernel)) ggX7_pastBlanks_X7_sign
theorem dX7_pastBlanks_0 : decode cX7_pastBlanks 0 = .ok (.iload_n 1, 1) := by decide +kernel
theorem dX7_pastBlanks_1 : decode cX7_pastBlanks 1 = .ok (.istore_n 2, 1) := by decide +kernel
theorem dX7_pastBlanks_2 : decode cX7_pastBlanks 2 = .ok (.iload_n 2, 1) := by decide +kernel
theorem dX7_pastBlanks_3 : decode cX7_pastBlanks 3 = .ok (.aload_n 0, 1) := by decide +kernel
theorem dX7_pastBlanks_4 : decode cX7_pastBlanks 4 = .ok (.getfield 13, 3) := by decide +kernel
theorem dX7_pastBlanks_7 : decode cX7_pastBlanks 7 = .ok (.if_icmp .ge 19, 3) := by decide +kernel
theorem dX7_pastBlanks_10 : decode cX7_pastBlanks 10 = .ok (.aload_n 0, 1) := by decide +kernel
theorem dX7_pastBlanks_11 : decode cX7_pastBlanks 11 = .ok (.iload_n 2, 1) := by decide +kernel
theorem dX7_pastBlanks_12 : decode cX7_pastBlanks 12 = .ok (.invokevirtual 21, 3) := by decide +kernel
theorem dX7_pastBlanks_15 : decode cX7_pastBlanks 15 = .ok (.bipush 32, 2) := by decide +kernel
theorem dX7_pastBlanks_17 : decode cX7_pastBlanks 17 = .ok (.if_icmp .ne 9, 3) := by decide +kernel
theorem dX7_pastBlanks_20 : decode cX7_pastBlanks 20 = .ok (.iinc 2 1, 3) := by decide +kernel
theorem dX7_pastBlanks_23 : decode cX7_pastBlanks 23 = .ok (.goto (-21), 3) := by decide +kernel
theorem dX7_pastBlanks_26 : decode cX7_pastBlanks 26 = .ok (.iload_n 2, 1) := by decide +kernel
theorem dX7_pastBlanks_27 : decode cX7_pastBlanks 27 = .ok (.ireturn, 1) := by decide +kernel
set_option maxRecDepth 20000 in
theorem ggX8_init_X6_init : GoodIn wsX8_init wsX6_init := goodIn_r _ [36, 37, 2, 3, 28, 38, 39, 40, 41, 42, 43, 44, 45, 46, 47, 48, 49, 50, 51, 52, 53, 54, 55, 56, 57, 100, 101, 102, 103, 104, 105, 106, 107, 108, 109, 110, 122, 123, 124, 125, 126, 127] (by decide +kernel) (by decide +kernel)
set_option maxRecDepth 20000 in
theorem gX8_init_X6_init : GoodIn wsX8_init (wsX6_init) := ggX8_init_X6_init
set_option maxRecDepth 20000 in
theorem ggX8_init_X3_init : GoodIn wsX8_init wsX3_init := goodIn_r _ [60, 61, 2, 3, 14, 62, 28, 63, 111, 112] (by decide +kernel) (by decide +kernel)
set_option maxRecDepth 20000 in
theorem gX8_init_X3_init : GoodIn wsX8_init (wsX3_init) := ggX8_init_X3_init
set_option maxRecDepth 20000 in
theorem ggX8_init_X0_init : GoodIn wsX8_init wsX0_init := goodIn_r _ [66, 67, 2, 3, 28, 68, 69, 113, 114, 115] (by decide +kernel) (by decide +kernel)
set_option maxRecDepth 20000 in
theorem gX8_init_X0_init : GoodIn wsX8_init (wsX0_init) := ggX8_init_X0_init
set_option maxRecDepth 20000 in
theorem ggX8_init_X5_init : GoodIn wsX8_init wsX5_init := goodIn_r _ [72, 73, 2, 3, 28, 74, 116, 117] (by decide +kernel) (by decide +kernel)
set_option maxRecDepth 20000 in
theorem gX8_init_X5_init : GoodIn wsX8_init (wsX5_init) := ggX8_init_X5_init
set_option maxRecDepth 20000 in
theorem ggX8_init_X4_init : GoodIn wsX8_init wsX4_init := goodIn_r _ [77, 78, 2, 3, 28, 79, 80, 118, 119] (by decide +kernel) (by decide +kernel)
set_option maxRecDepth 20000 in
theorem gX8_init_X4_init : GoodIn wsX8_init (wsX4_init) := ggX8_init_X4_init
set_option maxRecDepth 20000 in
theorem ggX8_init_X7_init : GoodIn wsX8_init wsX7_init := goodIn_r _ [83, 84, 2, 3, 85, 86, 87, 120, 121] (by decide +kernel) (by decide +kernel)
set_option maxRecDepth 20000 in
theorem gX8_init_X7_init : GoodIn wsX8_init (wsX7_init) := ggX8_init_X7_init
theorem dX8_init_0 : decode cX8_init 0 = .ok (.aload_n 0, 1) := by decide +kernel
theorem dX8_init_1 : decode cX8_init 1 = .ok (.invokespecial 1, 3) := by decide +kernel
theorem dX8_init_4 : decode cX8_init 4 = .ok (.aload_n 0, 1) := by decide +kernel
theorem dX8_init_5 : decode cX8_init 5 = .ok (.bipush 6, 2) := by decide +kernel
theorem dX8_init_7 : decode cX8_init 7 = .ok (.anewarray 9, 3) := by decide +kernel
theorem dX8_init_10 : decode cX8_init 10 = .ok (.putfield 11, 3) := by decide +kernel
theorem dX8_init_13 : decode cX8_init 13 = .ok (.aload_n 0, 1) := by decide +kernel
theorem dX8_init_14 : decode cX8_init 14 = .ok (.iconst 4, 1) := by decide +kernel
theorem dX8_init_15 : decode cX8_init 15 = .ok (.anewarray 15, 3) := by decide +kernel
theorem dX8_init_18 : decode cX8_init 18 = .ok (.putfield 17, 3) := by decide +kernel
theorem dX8_init_21 : decode cX8_init 21 = .ok (.aload_n 0, 1) := by decide +kernel
theorem dX8_init_22 : decode cX8_init 22 = .ok (.new 21, 3) := by decide +kernel
theorem dX8_init_25 : decode cX8_init 25 = .ok (.dup, 1) := by decide +kernel
theorem dX8_init_26 : decode cX8_init 26 = .ok (.invokespecial 23, 3) := by decide +kernel
theorem dX8_init_29 : decode cX8_init 29 = .ok (.putfield 24, 3) := by decide +kernel
theorem dX8_init_32 : decode cX8_init 32 = .ok (.aload_n 0, 1) := by decide +kernel
theorem dX8_init_33 : decode cX8_init 33 = .ok (.new 21, 3) := by decide +kernel
theorem dX8_init_36 : decode cX8_init 36 = .ok (.dup, 1) := by decide +kernel
theorem dX8_init_37 : decode cX8_init 37 = .ok (.invokespecial 23, 3) := by decide +kernel
theorem dX8_init_40 : decode cX8_init 40 = .ok (.putfield 28, 3) := by decide +kernel
theorem dX8_init_43 : decode cX8_init 43 = .ok (.aload_n 0, 1) := by decide +kernel
theorem dX8_init_44 : decode cX8_init 44 = .ok (.iconst 3, 1) := by decide +kernel
theorem dX8_init_45 : decode cX8_init 45 = .ok (.anewarray 21, 3) := by decide +kernel
theorem dX8_init_48 : decode cX8_init 48 = .ok (.putfield 31, 3) := by decide +kernel
theorem dX8_init_51 : decode cX8_init 51 = .ok (.aload_n 0, 1) := by decide +kernel
theorem dX8_init_52 : decode cX8_init 52 = .ok (.iconst 3, 1) := by decide +kernel
theorem dX8_init_53 : decode cX8_init 53 = .ok (.newarray .boolean, 2) := by decide +kernel
theorem dX8_init_55 : decode cX8_init 55 = .ok (.putfield 35, 3) := by decide +kernel
theorem dX8_init_58 : decode cX8_init 58 = .ok (.aload_n 0, 1) := by decide +kernel
theorem dX8_init_59 : decode cX8_init 59 = .ok (.new 39, 3) := by decide +kernel
theorem dX8_init_62 : decode cX8_init 62 = .ok (.dup, 1) := by decide +kernel
theorem dX8_init_63 : decode cX8_init 63 = .ok (.invokespecial 41, 3) := by decide +kernel
theorem dX8_init_66 : decode cX8_init 66 = .ok (.putfield 42, 3) := by decide +kernel
theorem dX8_init_69 : decode cX8_init 69 = .ok (.aload_n 0, 1) := by decide +kernel
theorem dX8_init_70 : decode cX8_init 70 = .ok (.new 46, 3) := by decide +kernel
theorem dX8_init_73 : decode cX8_init 73 = .ok (.dup, 1) := by decide +kernel
theorem dX8_init_74 : decode cX8_init 74 = .ok (.invokespecial 48, 3) := by decide +kernel
theorem dX8_init_77 : decode cX8_init 77 = .ok (.putfield 49, 3) := by decide +kernel
theorem dX8_init_80 : decode cX8_init 80 = .ok (.aload_n 0, 1) := by decide +kernel
theorem dX8_init_81 : decode cX8_init 81 = .ok (.new 53, 3) := by decide +kernel
theorem dX8_init_84 : decode cX8_init 84 = .ok (.dup, 1) := by decide +kernel
theorem dX8_init_85 : decode cX8_init 85 = .ok (.invokespecial 55, 3) := by decide +kernel
theorem dX8_init_88 : decode cX8_init 88 = .ok (.putfield 56, 3) := by decide +kernel
theorem dX8_init_91 : decode cX8_init 91 = .ok (.aload_n 0, 1) := by decide +kernel
theorem dX8_init_92 : decode cX8_init 92 = .ok (.bipush 6, 2) := by decide +kernel
theorem dX8_init_94 : decode cX8_init 94 = .ok (.newarray .int, 2) := by decide +kernel
theorem dX8_init_96 : decode cX8_init 96 = .ok (.putfield 60, 3) := by decide +kernel
theorem dX8_init_99 : decode cX8_init 99 = .ok (.iconst 0, 1) := by decide +kernel
theorem dX8_init_100 : decode cX8_init 100 = .ok (.istore_n 1, 1) := by decide +kernel
theorem dX8_init_101 : decode cX8_init 101 = .ok (.iload_n 1, 1) := by decide +kernel
theorem dX8_init_102 : decode cX8_init 102 = .ok (.bipush 6, 2) := by decide +kernel
theorem dX8_init_104 : decode cX8_init 104 = .ok (.if_icmp .ge 22, 3) := by decide +kernel
theorem dX8_init_107 : decode cX8_init 107 = .ok (.aload_n 0, 1) := by decide +kernel
theorem dX8_init_108 : decode cX8_init 108 = .ok (.getfield 11, 3) := by decide +kernel
theorem dX8_init_111 : decode cX8_init 111 = .ok (.iload_n 1, 1) := by decide +kernel
theorem dX8_init_112 : decode cX8_init 112 = .ok (.new 9, 3) := by decide +kernel
theorem dX8_init_115 : decode cX8_init 115 = .ok (.dup, 1) := by decide +kernel
theorem dX8_init_116 : decode cX8_init 116 = .ok (.invokespecial 64, 3) := by decide +kernel
theorem dX8_init_119 : decode cX8_init 119 = .ok (.aastore, 1) := by decide +kernel
theorem dX8_init_120 : decode cX8_init 120 = .ok (.iinc 1 1, 3) := by decide +kernel
theorem dX8_init_123 : decode cX8_init 123 = .ok (.goto (-22), 3) := by decide +kernel
theorem dX8_init_126 : decode cX8_init 126 = .ok (.iconst 0, 1) := by decide +kernel
theorem dX8_init_127 : decode cX8_init 127 = .ok (.istore_n 1, 1) := by decide +kernel
theorem dX8_init_128 : decode cX8_init 128 = .ok (.iload_n 1, 1) := by decide +kernel
theorem dX8_init_129 : decode cX8_init 129 = .ok (.iconst 4, 1) := by decide +kernel
theorem dX8_init_130 : decode cX8_init 130 = .ok (.if_icmp .ge 22, 3) := by decide +kernel
theorem dX8_init_133 : decode cX8_init 133 = .ok (.aload_n 0, 1) := by decide +kernel
theorem dX8_init_134 : decode cX8_init 134 = .ok (.getfield 17, 3) := by decide +kernel
theorem dX8_init_137 : decode cX8_init 137 = .ok (.iload_n 1, 1) := by decide +kernel
theorem dX8_init_138 : decode cX8_init 138 = .ok (.new 15, 3) := by decide +kernel
theorem dX8_init_141 : decode cX8_init 141 = .ok (.dup, 1) := by decide +kernel
theorem dX8_init_142 : decode cX8_init 142 = .ok (.invokespecial 65, 3) := by decide +kernel
theorem dX8_init_145 : decode cX8_init 145 = .ok (.aastore, 1) := by decide +kernel
theorem dX8_init_146 : decode cX8_init 146 = .ok (.iinc 1 1, 3) := by decide +kernel
theorem dX8_init_149 : decode cX8_init 149 = .ok (.goto (-21), 3) := by decide +kernel
theorem dX8_init_152 : decode cX8_init 152 = .ok (.iconst 0, 1) := by decide +kernel
theorem dX8_init_153 : decode cX8_init 153 = .ok (.istore_n 1, 1) := by decide +kernel
theorem dX8_init_154 : decode cX8_init 154 = .ok (.iload_n 1, 1) := by decide +kernel
theorem dX8_init_155 : decode cX8_init 155 = .ok (.iconst 3, 1) := by decide +kernel
theorem dX8_init_156 : decode cX8_init 156 = .ok (.if_icmp .ge 22, 3) := by decide +kernel
theorem dX8_init_159 : decode cX8_init 159 = .ok (.aload_n 0, 1) := by decide +kernel
theorem dX8_init_160 : decode cX8_init 160 = .ok (.getfield 31, 3) := by decide +kernel
theorem dX8_init_163 : decode cX8_init 163 = .ok (.iload_n 1, 1) := by decide +kernel
theorem dX8_init_164 : decode cX8_init 164 = .ok (.new 21, 3) := by decide +kernel
theorem dX8_init_167 : decode cX8_init 167 = .ok (.dup, 1) := by decide +kernel
theorem dX8_init_168 : decode cX8_init 168 = .ok (.invokespecial 23, 3) := by decide +kernel
theorem dX8_init_171 : decode cX8_init 171 = .ok (.aastore, 1) := by decide +kernel
theorem dX8_init_172 : decode cX8_init 172 = .ok (.iinc 1 1, 3) := by decide +kernel
theorem dX8_init_175 : decode cX8_init 175 = .ok (.goto (-21), 3) := by decide +kernel
theorem dX8_init_178 : decode cX8_init 178 = .ok (.return_, 1) := by decide +kernel
set_option maxRecDepth 20000 in
theorem ggX8_at_X8_isRow : GoodIn wsX8_at wsX8_isRow := goodIn_r _ [7] (by decide +kernel) (by decide +kernel)
set_option maxRecDepth 20000 in
theorem gX8_at_X8_isRow : GoodIn wsX8_at (va_wsS RX8 66 yX8_isRow wsX8_isRow) := goodIn_app (goodIn_of _ (by decide +kernel)) ggX8_at_X8_isRow
set_option maxRecDepth 20000 in
theorem ggX8_at_X4_isMissing : GoodIn wsX8_at wsX4_isMissing := goodIn_r _ [12, 13, 36, 37] (by decide +kernel) (by decide +kernel)
set_option maxRecDepth 20000 in
theorem gX8_at_X4_isMissing : GoodIn wsX8_at (wsV RX8 85 RX4 yX4_isMissing wsX4_isMissing) := goodIn_app (goodIn_of _ (by decide +kernel)) ggX8_at_X4_isMissing
set_option maxRecDepth 20000 in
theorem ggX8_at_X8_find : GoodIn wsX8_at wsX8_find := goodIn_r _ [17, 18, 19, 24, 25, 26, 27, 28, 29, 30, 31, 32, 33, 34, 35] (by decide +kernel) (by decide +kernel)
set_option maxRecDepth 20000 in
theorem gX8_at_X8_find : GoodIn wsX8_at (wsV RX8 70 RX8 yX8_find wsX8_find) := goodIn_app (goodIn_of _ (by decide +kernel)) ggX8_at_X8_find
set_option maxRecDepth 20000 in
theorem ggX8_at_X4_has : GoodIn wsX8_at wsX4_has := goodIn_r _ [23, 13, 36, 37] (by decide +kernel) (by decide +kernel)
set_option maxRecDepth 20000 in
theorem gX8_at_X4_has : GoodIn wsX8_at (wsV RX8 89 RX4 yX4_has wsX4_has) := goodIn_app (goodIn_of _ (by decide +kernel)) ggX8_at_X4_has
theorem dX8_at_0 : decode cX8_at 0 = .ok (.iload_n 1, 1) := by decide +kernel
theorem dX8_at_1 : decode cX8_at 1 = .ok (.invokestatic 66, 3) := by decide +kernel
theorem dX8_at_4 : decode cX8_at 4 = .ok (.ifCond .ne 5, 3) := by decide +kernel
theorem dX8_at_7 : decode cX8_at 7 = .ok (.iconst (-1), 1) := by decide +kernel
theorem dX8_at_8 : decode cX8_at 8 = .ok (.ireturn, 1) := by decide +kernel
theorem dX8_at_9 : decode cX8_at 9 = .ok (.aload_n 0, 1) := by decide +kernel
theorem dX8_at_10 : decode cX8_at 10 = .ok (.getfield 11, 3) := by decide +kernel
theorem dX8_at_13 : decode cX8_at 13 = .ok (.iload_n 1, 1) := by decide +kernel
theorem dX8_at_14 : decode cX8_at 14 = .ok (.aaload, 1) := by decide +kernel
theorem dX8_at_15 : decode cX8_at 15 = .ok (.astore_n 3, 1) := by decide +kernel
theorem dX8_at_16 : decode cX8_at 16 = .ok (.aload_n 3, 1) := by decide +kernel
theorem dX8_at_17 : decode cX8_at 17 = .ok (.invokevirtual 85, 3) := by decide +kernel
theorem dX8_at_20 : decode cX8_at 20 = .ok (.ifCond .eq 9, 3) := by decide +kernel
theorem dX8_at_23 : decode cX8_at 23 = .ok (.aload_n 0, 1) := by decide +kernel
theorem dX8_at_24 : decode cX8_at 24 = .ok (.iconst 1, 1) := by decide +kernel
theorem dX8_at_25 : decode cX8_at 25 = .ok (.invokevirtual 70, 3) := by decide +kernel
theorem dX8_at_28 : decode cX8_at 28 = .ok (.ireturn, 1) := by decide +kernel
theorem dX8_at_29 : decode cX8_at 29 = .ok (.aload_n 3, 1) := by decide +kernel
theorem dX8_at_30 : decode cX8_at 30 = .ok (.iload_n 2, 1) := by decide +kernel
theorem dX8_at_31 : decode cX8_at 31 = .ok (.invokevirtual 89, 3) := by decide +kernel
theorem dX8_at_34 : decode cX8_at 34 = .ok (.ifCond .ne 9, 3) := by decide +kernel
theorem dX8_at_37 : decode cX8_at 37 = .ok (.aload_n 0, 1) := by decide +kernel
theorem dX8_at_38 : decode cX8_at 38 = .ok (.iconst 2, 1) := by decide +kernel
theorem dX8_at_39 : decode cX8_at 39 = .ok (.invokevirtual 70, 3) := by decide +kernel
theorem dX8_at_42 : decode cX8_at 42 = .ok (.ireturn, 1) := by decide +kernel
theorem dX8_at_43 : decode cX8_at 43 = .ok (.aload_n 0, 1) := by decide +kernel
theorem dX8_at_44 : decode cX8_at 44 = .ok (.aload_n 3, 1) := by decide +kernel
theorem dX8_at_45 : decode cX8_at 45 = .ok (.getfield 82, 3) := by decide +kernel
theorem dX8_at_48 : decode cX8_at 48 = .ok (.iload_n 2, 1) := by decide +kernel
theorem dX8_at_49 : decode cX8_at 49 = .ok (.iaload, 1) := by decide +kernel
theorem dX8_at_50 : decode cX8_at 50 = .ok (.putfield 92, 3) := by decide +kernel
theorem dX8_at_53 : decode cX8_at 53 = .ok (.iconst 1, 1) := by decide +kernel
theorem dX8_at_54 : decode cX8_at 54 = .ok (.ireturn, 1) := by decide +kernel
set_option maxRecDepth 20000 in
theorem ggX8_text_X8_isText : GoodIn wsX8_text wsX8_isText := goodIn_r _ [5] (by decide +kernel) (by decide +kernel)
set_option maxRecDepth 20000 in
theorem gX8_text_X8_isText : GoodIn wsX8_text (va_wsS RX8 113 yX8_isText wsX8_isText) := goodIn_app (goodIn_of _ (by decide +kernel)) ggX8_text_X8_isText
set_option maxRecDepth 20000 in
theorem ggX8_text_X8_find : GoodIn wsX8_text wsX8_find := goodIn_r _ [9, 10, 11, 19, 20, 21, 22, 23, 24, 25, 26, 27, 28, 29, 30] (by decide +kernel) (by decide +kernel)
set_option maxRecDepth 20000 in
theorem gX8_text_X8_find : GoodIn wsX8_text (wsV RX8 70 RX8 yX8_find wsX8_find) := goodIn_app (goodIn_of _ (by decide +kernel)) ggX8_text_X8_find
set_option maxRecDepth 20000 in
theorem ggX8_text_X7_begin : GoodIn wsX8_text wsX7_begin := goodIn_r _ [16, 17, 18, 31, 32] (by decide +kernel) (by decide +kernel)
set_option maxRecDepth 20000 in
theorem gX8_text_X7_begin : GoodIn wsX8_text (wsV RX8 116 RX7 yX7_begin wsX7_begin) := goodIn_app (goodIn_of _ (by decide +kernel)) ggX8_text_X7_begin
theorem dX8_text_0 : decode cX8_text 0 = .ok (.iload_n 1, 1) := by decide +kernel
theorem dX8_text_1 : decode cX8_text 1 = .ok (.invokestatic 113, 3) := by decide +kernel
theorem dX8_text_4 : decode cX8_text 4 = .ok (.ifCond .eq 9, 3) := by decide +kernel
theorem dX8_text_7 : decode cX8_text 7 = .ok (.iload_n 2, 1) := by decide +kernel
theorem dX8_text_8 : decode cX8_text 8 = .ok (.bipush 80, 2) := by decide +kernel
theorem dX8_text_10 : decode cX8_text 10 = .ok (.if_icmp .le 5, 3) := by decide +kernel
theorem dX8_text_13 : decode cX8_text 13 = .ok (.iconst (-1), 1) := by decide +kernel
theorem dX8_text_14 : decode cX8_text 14 = .ok (.ireturn, 1) := by decide +kernel
theorem dX8_text_15 : decode cX8_text 15 = .ok (.iload_n 2, 1) := by decide +kernel
theorem dX8_text_16 : decode cX8_text 16 = .ok (.ifCond .ge 9, 3) := by decide +kernel
theorem dX8_text_19 : decode cX8_text 19 = .ok (.aload_n 0, 1) := by decide +kernel
theorem dX8_text_20 : decode cX8_text 20 = .ok (.iconst 5, 1) := by decide +kernel
theorem dX8_text_21 : decode cX8_text 21 = .ok (.invokevirtual 70, 3) := by decide +kernel
theorem dX8_text_24 : decode cX8_text 24 = .ok (.ireturn, 1) := by decide +kernel
theorem dX8_text_25 : decode cX8_text 25 = .ok (.aload_n 0, 1) := by decide +kernel
theorem dX8_text_26 : decode cX8_text 26 = .ok (.getfield 17, 3) := by decide +kernel
theorem dX8_text_29 : decode cX8_text 29 = .ok (.iload_n 1, 1) := by decide +kernel
theorem dX8_text_30 : decode cX8_text 30 = .ok (.aaload, 1) := by decide +kernel
theorem dX8_text_31 : decode cX8_text 31 = .ok (.iload_n 2, 1) := by decide +kernel
theorem dX8_text_32 : decode cX8_text 32 = .ok (.invokevirtual 116, 3) := by decide +kernel
theorem dX8_text_35 : decode cX8_text 35 = .ok (.iload_n 2, 1) := by decide +kernel
theorem dX8_text_36 : decode cX8_text 36 = .ok (.ireturn, 1) := by decide +kernel
set_option maxRecDepth 20000 in
theorem ggX8_put_X8_isText : GoodIn wsX8_put wsX8_isText := goodIn_r _ [6] (by decide +kernel) (by decide +kernel)
set_option maxRecDepth 20000 in
theorem gX8_put_X8_isText : GoodIn wsX8_put (va_wsS RX8 113 yX8_isText wsX8_isText) := goodIn_app (goodIn_of _ (by decide +kernel)) ggX8_put_X8_isText
set_option maxRecDepth 20000 in
theorem ggX8_put_X7_isMissing : GoodIn wsX8_put wsX7_isMissing := goodIn_r _ [11, 12, 35, 36] (by decide +kernel) (by decide +kernel)
set_option maxRecDepth 20000 in
theorem gX8_put_X7_isMissing : GoodIn wsX8_put (wsV RX8 117 RX7 yX7_isMissing wsX7_isMissing) := goodIn_app (goodIn_of _ (by decide +kernel)) ggX8_put_X7_isMissing
set_option maxRecDepth 20000 in
theorem ggX8_put_X8_find : GoodIn wsX8_put wsX8_find := goodIn_r _ [16, 17, 18, 23, 24, 25, 26, 27, 28, 29, 30, 31, 32, 33, 34] (by decide +kernel) (by decide +kernel)
set_option maxRecDepth 20000 in
theorem gX8_put_X8_find : GoodIn wsX8_put (wsV RX8 70 RX8 yX8_find wsX8_find) := goodIn_app (goodIn_of _ (by decide +kernel)) ggX8_put_X8_find
set_option maxRecDepth 20000 in
theorem ggX8_put_X7_has : GoodIn wsX8_put wsX7_has := goodIn_r _ [22, 12, 35, 36] (by decide +kernel) (by decide +kernel)
set_option maxRecDepth 20000 in
theorem gX8_put_X7_has : GoodIn wsX8_put (wsV RX8 118 RX7 yX7_has wsX7_has) := goodIn_app (goodIn_of _ (by decide +kernel)) ggX8_put_X7_has
theorem dX8_put_0 : decode cX8_put 0 = .ok (.iload_n 1, 1) := by decide +kernel
theorem dX8_put_1 : decode cX8_put 1 = .ok (.invokestatic 113, 3) := by decide +kernel
theorem dX8_put_4 : decode cX8_put 4 = .ok (.ifCond .ne 5, 3) := by decide +kernel
theorem dX8_put_7 : decode cX8_put 7 = .ok (.iconst (-1), 1) := by decide +kernel
theorem dX8_put_8 : decode cX8_put 8 = .ok (.ireturn, 1) := by decide +kernel
theorem dX8_put_9 : decode cX8_put 9 = .ok (.aload_n 0, 1) := by decide +kernel
theorem dX8_put_10 : decode cX8_put 10 = .ok (.getfield 17, 3) := by decide +kernel
theorem dX8_put_13 : decode cX8_put 13 = .ok (.iload_n 1, 1) := by decide +kernel
theorem dX8_put_14 : decode cX8_put 14 = .ok (.aaload, 1) := by decide +kernel
theorem dX8_put_15 : decode cX8_put 15 = .ok (.astore 4, 2) := by decide +kernel
theorem dX8_put_17 : decode cX8_put 17 = .ok (.aload 4, 2) := by decide +kernel
theorem dX8_put_19 : decode cX8_put 19 = .ok (.invokevirtual 117, 3) := by decide +kernel
theorem dX8_put_22 : decode cX8_put 22 = .ok (.ifCond .eq 9, 3) := by decide +kernel
theorem dX8_put_25 : decode cX8_put 25 = .ok (.aload_n 0, 1) := by decide +kernel
theorem dX8_put_26 : decode cX8_put 26 = .ok (.iconst 1, 1) := by decide +kernel
theorem dX8_put_27 : decode cX8_put 27 = .ok (.invokevirtual 70, 3) := by decide +kernel
theorem dX8_put_30 : decode cX8_put 30 = .ok (.ireturn, 1) := by decide +kernel
theorem dX8_put_31 : decode cX8_put 31 = .ok (.aload 4, 2) := by decide +kernel
theorem dX8_put_33 : decode cX8_put 33 = .ok (.iload_n 2, 1) := by decide +kernel
theorem dX8_put_34 : decode cX8_put 34 = .ok (.invokevirtual 118, 3) := by decide +kernel
theorem dX8_put_37 : decode cX8_put 37 = .ok (.ifCond .ne 9, 3) := by decide +kernel
theorem dX8_put_40 : decode cX8_put 40 = .ok (.aload_n 0, 1) := by decide +kernel
theorem dX8_put_41 : decode cX8_put 41 = .ok (.iconst 2, 1) := by decide +kernel
theorem dX8_put_42 : decode cX8_put 42 = .ok (.invokevirtual 70, 3) := by decide +kernel
theorem dX8_put_45 : decode cX8_put 45 = .ok (.ireturn, 1) := by decide +kernel
theorem dX8_put_46 : decode cX8_put 46 = .ok (.aload 4, 2) := by decide +kernel
theorem dX8_put_48 : decode cX8_put 48 = .ok (.getfield 119, 3) := by decide +kernel
theorem dX8_put_51 : decode cX8_put 51 = .ok (.iload_n 2, 1) := by decide +kernel
theorem dX8_put_52 : decode cX8_put 52 = .ok (.baload, 1) := by decide +kernel
theorem dX8_put_53 : decode cX8_put 53 = .ok (.istore 5, 2) := by decide +kernel
theorem dX8_put_55 : decode cX8_put 55 = .ok (.aload 4, 2) := by decide +kernel
theorem dX8_put_57 : decode cX8_put 57 = .ok (.getfield 119, 3) := by decide +kernel
theorem dX8_put_60 : decode cX8_put 60 = .ok (.iload_n 2, 1) := by decide +kernel
theorem dX8_put_61 : decode cX8_put 61 = .ok (.iload_n 3, 1) := by decide +kernel
theorem dX8_put_62 : decode cX8_put 62 = .ok (.i2b, 1) := by decide +kernel
theorem dX8_put_63 : decode cX8_put 63 = .ok (.bastore, 1) := by decide +kernel
theorem dX8_put_64 : decode cX8_put 64 = .ok (.iload 5, 2) := by decide +kernel
theorem dX8_put_66 : decode cX8_put 66 = .ok (.sipush 1000, 3) := by decide +kernel
theorem dX8_put_69 : decode cX8_put 69 = .ok (.iadd, 1) := by decide +kernel
theorem dX8_put_70 : decode cX8_put 70 = .ok (.ireturn, 1) := by decide +kernel
set_option maxRecDepth 20000 in
theorem ggX8_fault_X8_isText : GoodIn wsX8_fault wsX8_isText := goodIn_r _ [6] (by decide +kernel) (by decide +kernel)
set_option maxRecDepth 20000 in
theorem gX8_fault_X8_isText : GoodIn wsX8_fault (va_wsS RX8 113 yX8_isText wsX8_isText) := goodIn_app (goodIn_of _ (by decide +kernel)) ggX8_fault_X8_isText
set_option maxRecDepth 20000 in
theorem ggX8_fault_X7_isMissing : GoodIn wsX8_fault wsX7_isMissing := goodIn_r _ [11, 12, 83, 84] (by decide +kernel) (by decide +kernel)
set_option maxRecDepth 20000 in
theorem gX8_fault_X7_isMissing : GoodIn wsX8_fault (wsV RX8 117 RX7 yX7_isMissing wsX7_isMissing) := goodIn_app (goodIn_of _ (by decide +kernel)) ggX8_fault_X7_isMissing
set_option maxRecDepth 20000 in
theorem ggX8_fault_X8_find : GoodIn wsX8_fault wsX8_find := goodIn_r _ [16, 17, 18, 71, 72, 73, 74, 75, 76, 77, 78, 79, 80, 81, 82] (by decide +kernel) (by decide +kernel)
set_option maxRecDepth 20000 in
theorem gX8_fault_X8_find : GoodIn wsX8_fault (wsV RX8 70 RX8 yX8_find wsX8_find) := goodIn_app (goodIn_of _ (by decide +kernel)) ggX8_fault_X8_find
set_option maxRecDepth 20000 in
theorem ggX8_fault_X6_readFrom : GoodIn wsX8_fault wsX6_readFrom := goodIn_r _ [23, 24, 25, 26, 27, 28, 29, 30, 31, 32, 33, 34, 35, 36, 37, 38, 10, 39, 12, 40, 41, 42, 43, 44, 45, 46, 47, 48, 49, 50, 51, 52, 53, 54, 55, 56, 22, 57, 58, 59, 60, 61, 62, 63, 64, 65, 66, 67, 68, 69, 70, 85, 86, 87, 88, 89, 90, 91, 92, 93, 94, 95, 96, 97, 98, 99, 100, 101, 83, 84] (by decide +kernel) (by decide +kernel)
set_option maxRecDepth 20000 in
theorem gX8_fault_X6_readFrom : GoodIn wsX8_fault (wsV RX8 123 RX6 yX6_readFrom wsX6_readFrom) := goodIn_app (goodIn_of _ (by decide +kernel)) ggX8_fault_X6_readFrom
theorem dX8_fault_0 : decode cX8_fault 0 = .ok (.iload_n 1, 1) := by decide +kernel
theorem dX8_fault_1 : decode cX8_fault 1 = .ok (.invokestatic 113, 3) := by decide +kernel
theorem dX8_fault_4 : decode cX8_fault 4 = .ok (.ifCond .ne 5, 3) := by decide +kernel
theorem dX8_fault_7 : decode cX8_fault 7 = .ok (.iconst (-1), 1) := by decide +kernel
theorem dX8_fault_8 : decode cX8_fault 8 = .ok (.ireturn, 1) := by decide +kernel
theorem dX8_fault_9 : decode cX8_fault 9 = .ok (.aload_n 0, 1) := by decide +kernel
theorem dX8_fault_10 : decode cX8_fault 10 = .ok (.getfield 17, 3) := by decide +kernel
theorem dX8_fault_13 : decode cX8_fault 13 = .ok (.iload_n 1, 1) := by decide +kernel
theorem dX8_fault_14 : decode cX8_fault 14 = .ok (.aaload, 1) := by decide +kernel
theorem dX8_fault_15 : decode cX8_fault 15 = .ok (.invokevirtual 117, 3) := by decide +kernel
theorem dX8_fault_18 : decode cX8_fault 18 = .ok (.ifCond .eq 9, 3) := by decide +kernel
theorem dX8_fault_21 : decode cX8_fault 21 = .ok (.aload_n 0, 1) := by decide +kernel
theorem dX8_fault_22 : decode cX8_fault 22 = .ok (.iconst 1, 1) := by decide +kernel
theorem dX8_fault_23 : decode cX8_fault 23 = .ok (.invokevirtual 70, 3) := by decide +kernel
theorem dX8_fault_26 : decode cX8_fault 26 = .ok (.ireturn, 1) := by decide +kernel
theorem dX8_fault_27 : decode cX8_fault 27 = .ok (.aload_n 0, 1) := by decide +kernel
theorem dX8_fault_28 : decode cX8_fault 28 = .ok (.getfield 28, 3) := by decide +kernel
theorem dX8_fault_31 : decode cX8_fault 31 = .ok (.aload_n 0, 1) := by decide +kernel
theorem dX8_fault_32 : decode cX8_fault 32 = .ok (.getfield 17, 3) := by decide +kernel
theorem dX8_fault_35 : decode cX8_fault 35 = .ok (.iload_n 1, 1) := by decide +kernel
theorem dX8_fault_36 : decode cX8_fault 36 = .ok (.aaload, 1) := by decide +kernel
theorem dX8_fault_37 : decode cX8_fault 37 = .ok (.invokevirtual 123, 3) := by decide +kernel
theorem dX8_fault_40 : decode cX8_fault 40 = .ok (.ireturn, 1) := by decide +kernel
set_option maxRecDepth 20000 in
theorem ggX8_street_X8_isText : GoodIn wsX8_street wsX8_isText := goodIn_r _ [9] (by decide +kernel) (by decide +kernel)
set_option maxRecDepth 20000 in
theorem gX8_street_X8_isText : GoodIn wsX8_street (va_wsS RX8 113 yX8_isText wsX8_isText) := goodIn_app (goodIn_of _ (by decide +kernel)) ggX8_street_X8_isText
set_option maxRecDepth 20000 in
theorem ggX8_street_X7_isMissing : GoodIn wsX8_street wsX7_isMissing := goodIn_r _ [14, 15, 117, 118] (by decide +kernel) (by decide +kernel)
set_option maxRecDepth 20000 in
theorem gX8_street_X7_isMissing : GoodIn wsX8_street (wsV RX8 117 RX7 yX7_isMissing wsX7_isMissing) := goodIn_app (goodIn_of _ (by decide +kernel)) ggX8_street_X7_isMissing
set_option maxRecDepth 20000 in
theorem ggX8_street_X8_find : GoodIn wsX8_street wsX8_find := goodIn_r _ [19, 20, 21, 94, 95, 96, 97, 98, 99, 100, 101, 102, 103, 104, 105] (by decide +kernel) (by decide +kernel)
set_option maxRecDepth 20000 in
theorem gX8_street_X8_find : GoodIn wsX8_street (wsV RX8 70 RX8 yX8_find wsX8_find) := goodIn_app (goodIn_of _ (by decide +kernel)) ggX8_street_X8_find
set_option maxRecDepth 20000 in
theorem ggX8_street_X6_readFrom : GoodIn wsX8_street wsX6_readFrom := goodIn_r _ [26, 27, 28, 29, 30, 31, 32, 33, 34, 35, 36, 37, 38, 39, 40, 41, 13, 42, 15, 43, 44, 45, 46, 47, 48, 49, 50, 51, 52, 53, 54, 55, 56, 57, 58, 59, 25, 60, 61, 62, 63, 64, 65, 66, 67, 68, 69, 70, 71, 72, 73, 106, 107, 108, 109, 110, 111, 112, 113, 114, 115, 116, 119, 120, 121, 122, 123, 124, 117, 118] (by decide +kernel) (by decide +kernel)
set_option maxRecDepth 20000 in
theorem gX8_street_X6_readFrom : GoodIn wsX8_street (wsV RX8 123 RX6 yX6_readFrom wsX6_readFrom) := goodIn_app (goodIn_of _ (by decide +kernel)) ggX8_street_X6_readFrom
set_option maxRecDepth 20000 in
theorem ggX8_street_X6_become : GoodIn wsX8_street wsX6_become := goodIn_r _ [77, 27, 28, 29, 31, 78, 79, 80, 81, 61, 67, 68, 82, 83, 84, 30, 85, 86, 87, 35, 88, 89, 90, 91, 92, 93, 37, 38, 106, 107, 108, 109, 110, 111, 112, 113, 114, 115, 116, 119, 120, 121, 122, 123, 124] (by decide +kernel) (by decide +kernel)
set_option maxRecDepth 20000 in
theorem gX8_street_X6_become : GoodIn wsX8_street (wsV RX8 127 RX6 yX6_become wsX6_become) := goodIn_app (goodIn_of _ (by decide +kernel)) ggX8_street_X6_become
theorem dX8_street_0 : decode cX8_street 0 = .ok (.iload_n 1, 1) := by decide +kernel
theorem dX8_street_1 : decode cX8_street 1 = .ok (.invokestatic 113, 3) := by decide +kernel
theorem dX8_street_4 : decode cX8_street 4 = .ok (.ifCond .ne 5, 3) := by decide +kernel
theorem dX8_street_7 : decode cX8_street 7 = .ok (.iconst (-1), 1) := by decide +kernel
theorem dX8_street_8 : decode cX8_street 8 = .ok (.ireturn, 1) := by decide +kernel
theorem dX8_street_9 : decode cX8_street 9 = .ok (.aload_n 0, 1) := by decide +kernel
theorem dX8_street_10 : decode cX8_street 10 = .ok (.getfield 17, 3) := by decide +kernel
theorem dX8_street_13 : decode cX8_street 13 = .ok (.iload_n 1, 1) := by decide +kernel
theorem dX8_street_14 : decode cX8_street 14 = .ok (.aaload, 1) := by decide +kernel
theorem dX8_street_15 : decode cX8_street 15 = .ok (.invokevirtual 117, 3) := by decide +kernel
theorem dX8_street_18 : decode cX8_street 18 = .ok (.ifCond .eq 9, 3) := by decide +kernel
theorem dX8_street_21 : decode cX8_street 21 = .ok (.aload_n 0, 1) := by decide +kernel
theorem dX8_street_22 : decode cX8_street 22 = .ok (.iconst 1, 1) := by decide +kernel
theorem dX8_street_23 : decode cX8_street 23 = .ok (.invokevirtual 70, 3) := by decide +kernel
theorem dX8_street_26 : decode cX8_street 26 = .ok (.ireturn, 1) := by decide +kernel
theorem dX8_street_27 : decode cX8_street 27 = .ok (.aload_n 0, 1) := by decide +kernel
theorem dX8_street_28 : decode cX8_street 28 = .ok (.getfield 28, 3) := by decide +kernel
theorem dX8_street_31 : decode cX8_street 31 = .ok (.aload_n 0, 1) := by decide +kernel
theorem dX8_street_32 : decode cX8_street 32 = .ok (.getfield 17, 3) := by decide +kernel
theorem dX8_street_35 : decode cX8_street 35 = .ok (.iload_n 1, 1) := by decide +kernel
theorem dX8_street_36 : decode cX8_street 36 = .ok (.aaload, 1) := by decide +kernel
theorem dX8_street_37 : decode cX8_street 37 = .ok (.invokevirtual 123, 3) := by decide +kernel
theorem dX8_street_40 : decode cX8_street 40 = .ok (.bipush (-9), 2) := by decide +kernel
theorem dX8_street_42 : decode cX8_street 42 = .ok (.if_icmp .eq 6, 3) := by decide +kernel
theorem dX8_street_45 : decode cX8_street 45 = .ok (.bipush (-4), 2) := by decide +kernel
theorem dX8_street_47 : decode cX8_street 47 = .ok (.ireturn, 1) := by decide +kernel
theorem dX8_street_48 : decode cX8_street 48 = .ok (.aload_n 0, 1) := by decide +kernel
theorem dX8_street_49 : decode cX8_street 49 = .ok (.getfield 24, 3) := by decide +kernel
theorem dX8_street_52 : decode cX8_street 52 = .ok (.aload_n 0, 1) := by decide +kernel
theorem dX8_street_53 : decode cX8_street 53 = .ok (.getfield 28, 3) := by decide +kernel
theorem dX8_street_56 : decode cX8_street 56 = .ok (.invokevirtual 127, 3) := by decide +kernel
theorem dX8_street_59 : decode cX8_street 59 = .ok (.iconst 0, 1) := by decide +kernel
theorem dX8_street_60 : decode cX8_street 60 = .ok (.istore_n 2, 1) := by decide +kernel
theorem dX8_street_61 : decode cX8_street 61 = .ok (.iload_n 2, 1) := by decide +kernel
theorem dX8_street_62 : decode cX8_street 62 = .ok (.iconst 3, 1) := by decide +kernel
theorem dX8_street_63 : decode cX8_street 63 = .ok (.if_icmp .ge 16, 3) := by decide +kernel
theorem dX8_street_66 : decode cX8_street 66 = .ok (.aload_n 0, 1) := by decide +kernel
theorem dX8_street_67 : decode cX8_street 67 = .ok (.getfield 35, 3) := by decide +kernel
theorem dX8_street_70 : decode cX8_street 70 = .ok (.iload_n 2, 1) := by decide +kernel
theorem dX8_street_71 : decode cX8_street 71 = .ok (.iconst 0, 1) := by decide +kernel
theorem dX8_street_72 : decode cX8_street 72 = .ok (.bastore, 1) := by decide +kernel
theorem dX8_street_73 : decode cX8_street 73 = .ok (.iinc 2 1, 3) := by decide +kernel
theorem dX8_street_76 : decode cX8_street 76 = .ok (.goto (-15), 3) := by decide +kernel
theorem dX8_street_79 : decode cX8_street 79 = .ok (.aload_n 0, 1) := by decide +kernel
theorem dX8_street_80 : decode cX8_street 80 = .ok (.getfield 24, 3) := by decide +kernel
theorem dX8_street_83 : decode cX8_street 83 = .ok (.getfield 131, 3) := by decide +kernel
theorem dX8_street_86 : decode cX8_street 86 = .ok (.ireturn, 1) := by decide +kernel
set_option maxRecDepth 20000 in
theorem ggX8_wall_X6_measure : GoodIn wsX8_wall wsX6_measure := goodIn_r _ [8, 9, 10, 11, 24, 25, 26, 27, 28, 29, 30, 31, 32, 33, 34] (by decide +kernel) (by decide +kernel)
set_option maxRecDepth 20000 in
theorem gX8_wall_X6_measure : GoodIn wsX8_wall (wsV RX8 171 RX6 yX6_measure wsX6_measure) := goodIn_app (goodIn_of _ (by decide +kernel)) ggX8_wall_X6_measure
theorem dX8_wall_0 : decode cX8_wall 0 = .ok (.iload_n 1, 1) := by decide +kernel
theorem dX8_wall_1 : decode cX8_wall 1 = .ok (.ifCond .lt 24, 3) := by decide +kernel
theorem dX8_wall_4 : decode cX8_wall 4 = .ok (.iload_n 1, 1) := by decide +kernel
theorem dX8_wall_5 : decode cX8_wall 5 = .ok (.aload_n 0, 1) := by decide +kernel
theorem dX8_wall_6 : decode cX8_wall 6 = .ok (.getfield 24, 3) := by decide +kernel
theorem dX8_wall_9 : decode cX8_wall 9 = .ok (.getfield 165, 3) := by decide +kernel
theorem dX8_wall_12 : decode cX8_wall 12 = .ok (.if_icmp .ge 13, 3) := by decide +kernel
theorem dX8_wall_15 : decode cX8_wall 15 = .ok (.iload_n 2, 1) := by decide +kernel
theorem dX8_wall_16 : decode cX8_wall 16 = .ok (.ifCond .lt 9, 3) := by decide +kernel
theorem dX8_wall_19 : decode cX8_wall 19 = .ok (.iload_n 2, 1) := by decide +kernel
theorem dX8_wall_20 : decode cX8_wall 20 = .ok (.bipush 20, 2) := by decide +kernel
theorem dX8_wall_22 : decode cX8_wall 22 = .ok (.if_icmp .le 5, 3) := by decide +kernel
theorem dX8_wall_25 : decode cX8_wall 25 = .ok (.iconst (-1), 1) := by decide +kernel
theorem dX8_wall_26 : decode cX8_wall 26 = .ok (.ireturn, 1) := by decide +kernel
theorem dX8_wall_27 : decode cX8_wall 27 = .ok (.aload_n 0, 1) := by decide +kernel
theorem dX8_wall_28 : decode cX8_wall 28 = .ok (.getfield 24, 3) := by decide +kernel
theorem dX8_wall_31 : decode cX8_wall 31 = .ok (.getfield 168, 3) := by decide +kernel
theorem dX8_wall_34 : decode cX8_wall 34 = .ok (.iload_n 1, 1) := by decide +kernel
theorem dX8_wall_35 : decode cX8_wall 35 = .ok (.iaload, 1) := by decide +kernel
theorem dX8_wall_36 : decode cX8_wall 36 = .ok (.istore_n 3, 1) := by decide +kernel
theorem dX8_wall_37 : decode cX8_wall 37 = .ok (.aload_n 0, 1) := by decide +kernel
theorem dX8_wall_38 : decode cX8_wall 38 = .ok (.getfield 24, 3) := by decide +kernel
theorem dX8_wall_41 : decode cX8_wall 41 = .ok (.getfield 168, 3) := by decide +kernel
theorem dX8_wall_44 : decode cX8_wall 44 = .ok (.iload_n 1, 1) := by decide +kernel
theorem dX8_wall_45 : decode cX8_wall 45 = .ok (.iload_n 2, 1) := by decide +kernel
theorem dX8_wall_46 : decode cX8_wall 46 = .ok (.iastore, 1) := by decide +kernel
theorem dX8_wall_47 : decode cX8_wall 47 = .ok (.aload_n 0, 1) := by decide +kernel
theorem dX8_wall_48 : decode cX8_wall 48 = .ok (.getfield 24, 3) := by decide +kernel
theorem dX8_wall_51 : decode cX8_wall 51 = .ok (.invokevirtual 171, 3) := by decide +kernel
theorem dX8_wall_54 : decode cX8_wall 54 = .ok (.iload_n 3, 1) := by decide +kernel
theorem dX8_wall_55 : decode cX8_wall 55 = .ok (.ireturn, 1) := by decide +kernel
set_option maxRecDepth 20000 in
theorem ggX8_hears_X8_areTwo : GoodIn wsX8_hears wsX8_areTwo := goodIn_r _ [8, 9, 10, 11, 7, 12, 1, 13, 37, 38, 39, 40, 41, 42, 43, 44, 45, 46, 47, 48, 49, 50, 51, 52, 53, 54, 55, 56, 57, 58, 59] (by decide +kernel) (by decide +kernel)
set_option maxRecDepth 20000 in
theorem gX8_hears_X8_areTwo : GoodIn wsX8_hears (wsV RX8 180 RX8 yX8_areTwo wsX8_areTwo) := goodIn_app (goodIn_of _ (by decide +kernel)) ggX8_hears_X8_areTwo
set_option maxRecDepth 20000 in
theorem ggX8_hears_X6_comesTo : GoodIn wsX8_hears wsX6_comesTo := goodIn_r _ [18, 19, 20, 21, 22, 23, 24, 25, 26, 49, 50, 51, 52, 53, 54, 55, 56, 57, 58, 59] (by decide +kernel) (by decide +kernel)
set_option maxRecDepth 20000 in
theorem gX8_hears_X6_comesTo : GoodIn wsX8_hears (wsV RX8 183 RX6 yX6_comesTo wsX6_comesTo) := goodIn_app (goodIn_of _ (by decide +kernel)) ggX8_hears_X6_comesTo
set_option maxRecDepth 20000 in
theorem ggX8_hears_X6_isHeardBy : GoodIn wsX8_hears wsX6_isHeardBy := goodIn_r _ [30, 20, 22, 31, 15, 16, 17, 18, 19, 21, 23, 24, 25, 26, 32, 33, 34, 35, 36, 49, 50, 51, 52, 53, 54, 55, 56, 57, 58, 59] (by decide +kernel) (by decide +kernel)
set_option maxRecDepth 20000 in
theorem gX8_hears_X6_isHeardBy : GoodIn wsX8_hears (wsV RX8 186 RX6 yX6_isHeardBy wsX6_isHeardBy) := goodIn_app (goodIn_of _ (by decide +kernel)) ggX8_hears_X6_isHeardBy
theorem dX8_hears_0 : decode cX8_hears 0 = .ok (.aload_n 0, 1) := by decide +kernel
theorem dX8_hears_1 : decode cX8_hears 1 = .ok (.iload_n 1, 1) := by decide +kernel
theorem dX8_hears_2 : decode cX8_hears 2 = .ok (.iload_n 2, 1) := by decide +kernel
theorem dX8_hears_3 : decode cX8_hears 3 = .ok (.invokevirtual 180, 3) := by decide +kernel
theorem dX8_hears_6 : decode cX8_hears 6 = .ok (.ifCond .ne 5, 3) := by decide +kernel
theorem dX8_hears_9 : decode cX8_hears 9 = .ok (.iconst (-1), 1) := by decide +kernel
theorem dX8_hears_10 : decode cX8_hears 10 = .ok (.ireturn, 1) := by decide +kernel
theorem dX8_hears_11 : decode cX8_hears 11 = .ok (.aload_n 0, 1) := by decide +kernel
theorem dX8_hears_12 : decode cX8_hears 12 = .ok (.aload_n 0, 1) := by decide +kernel
theorem dX8_hears_13 : decode cX8_hears 13 = .ok (.getfield 24, 3) := by decide +kernel
theorem dX8_hears_16 : decode cX8_hears 16 = .ok (.aload_n 0, 1) := by decide +kernel
theorem dX8_hears_17 : decode cX8_hears 17 = .ok (.getfield 24, 3) := by decide +kernel
theorem dX8_hears_20 : decode cX8_hears 20 = .ok (.getfield 177, 3) := by decide +kernel
theorem dX8_hears_23 : decode cX8_hears 23 = .ok (.iload_n 1, 1) := by decide +kernel
theorem dX8_hears_24 : decode cX8_hears 24 = .ok (.iaload, 1) := by decide +kernel
theorem dX8_hears_25 : decode cX8_hears 25 = .ok (.iload_n 2, 1) := by decide +kernel
theorem dX8_hears_26 : decode cX8_hears 26 = .ok (.invokevirtual 183, 3) := by decide +kernel
theorem dX8_hears_29 : decode cX8_hears 29 = .ok (.putfield 92, 3) := by decide +kernel
theorem dX8_hears_32 : decode cX8_hears 32 = .ok (.aload_n 0, 1) := by decide +kernel
theorem dX8_hears_33 : decode cX8_hears 33 = .ok (.getfield 24, 3) := by decide +kernel
theorem dX8_hears_36 : decode cX8_hears 36 = .ok (.iload_n 1, 1) := by decide +kernel
theorem dX8_hears_37 : decode cX8_hears 37 = .ok (.iload_n 2, 1) := by decide +kernel
theorem dX8_hears_38 : decode cX8_hears 38 = .ok (.invokevirtual 186, 3) := by decide +kernel
theorem dX8_hears_41 : decode cX8_hears 41 = .ok (.ifCond .eq 7, 3) := by decide +kernel
theorem dX8_hears_44 : decode cX8_hears 44 = .ok (.iconst 1, 1) := by decide +kernel
theorem dX8_hears_45 : decode cX8_hears 45 = .ok (.goto 4, 3) := by decide +kernel
theorem dX8_hears_48 : decode cX8_hears 48 = .ok (.iconst 0, 1) := by decide +kernel
theorem dX8_hears_49 : decode cX8_hears 49 = .ok (.ireturn, 1) := by decide +kernel
set_option maxRecDepth 20000 in
theorem ggX8_heard_X8_isOne : GoodIn wsX8_heard wsX8_isOne := goodIn_r _ [6, 1, 7, 52, 53, 54, 55, 56, 57, 58, 59, 60, 61, 62, 63, 64, 65, 66, 67, 68, 69, 70, 71, 72, 73, 74] (by decide +kernel) (by decide +kernel)
set_option maxRecDepth 20000 in
theorem gX8_heard_X8_isOne : GoodIn wsX8_heard (wsV RX8 134 RX8 yX8_isOne wsX8_isOne) := goodIn_app (goodIn_of _ (by decide +kernel)) ggX8_heard_X8_isOne
set_option maxRecDepth 20000 in
theorem ggX8_heard_X8_isSet : GoodIn wsX8_heard wsX8_isSet := goodIn_r _ [11, 1, 12, 13, 14, 15, 16, 17, 52, 53, 54, 55, 56, 57, 58, 59, 60, 61, 62, 63, 64, 65, 66, 67, 68, 69, 70, 71, 72, 73, 74] (by decide +kernel) (by decide +kernel)
set_option maxRecDepth 20000 in
theorem gX8_heard_X8_isSet : GoodIn wsX8_heard (wsV RX8 189 RX8 yX8_isSet wsX8_isSet) := goodIn_app (goodIn_of _ (by decide +kernel)) ggX8_heard_X8_isSet
set_option maxRecDepth 20000 in
theorem ggX8_heard_X6_whoHear : GoodIn wsX8_heard wsX6_whoHear := goodIn_r _ [21, 22, 13, 14, 15, 16, 17, 23, 24, 25, 26, 27, 28, 29, 30, 31, 32, 33, 34, 35, 36, 37, 38, 39, 40, 41, 42, 43, 44, 45, 46, 47, 48, 49, 50, 51, 64, 65, 66, 67, 68, 69, 70, 71, 72, 73, 74] (by decide +kernel) (by decide +kernel)
set_option maxRecDepth 20000 in
theorem gX8_heard_X6_whoHear : GoodIn wsX8_heard (wsV RX8 148 RX6 yX6_whoHear wsX6_whoHear) := goodIn_app (goodIn_of _ (by decide +kernel)) ggX8_heard_X6_whoHear
theorem dX8_heard_0 : decode cX8_heard 0 = .ok (.aload_n 0, 1) := by decide +kernel
theorem dX8_heard_1 : decode cX8_heard 1 = .ok (.iload_n 1, 1) := by decide +kernel
theorem dX8_heard_2 : decode cX8_heard 2 = .ok (.invokevirtual 134, 3) := by decide +kernel
theorem dX8_heard_5 : decode cX8_heard 5 = .ok (.ifCond .eq 19, 3) := by decide +kernel
theorem dX8_heard_8 : decode cX8_heard 8 = .ok (.aload_n 0, 1) := by decide +kernel
theorem dX8_heard_9 : decode cX8_heard 9 = .ok (.iload_n 2, 1) := by decide +kernel
theorem dX8_heard_10 : decode cX8_heard 10 = .ok (.invokevirtual 189, 3) := by decide +kernel
theorem dX8_heard_13 : decode cX8_heard 13 = .ok (.ifCond .eq 11, 3) := by decide +kernel
theorem dX8_heard_16 : decode cX8_heard 16 = .ok (.iload_n 2, 1) := by decide +kernel
theorem dX8_heard_17 : decode cX8_heard 17 = .ok (.iload_n 1, 1) := by decide +kernel
theorem dX8_heard_18 : decode cX8_heard 18 = .ok (.ishr, 1) := by decide +kernel
theorem dX8_heard_19 : decode cX8_heard 19 = .ok (.iconst 1, 1) := by decide +kernel
theorem dX8_heard_20 : decode cX8_heard 20 = .ok (.iand, 1) := by decide +kernel
theorem dX8_heard_21 : decode cX8_heard 21 = .ok (.ifCond .eq 5, 3) := by decide +kernel
theorem dX8_heard_24 : decode cX8_heard 24 = .ok (.iconst (-1), 1) := by decide +kernel
theorem dX8_heard_25 : decode cX8_heard 25 = .ok (.ireturn, 1) := by decide +kernel
theorem dX8_heard_26 : decode cX8_heard 26 = .ok (.aload_n 0, 1) := by decide +kernel
theorem dX8_heard_27 : decode cX8_heard 27 = .ok (.getfield 24, 3) := by decide +kernel
theorem dX8_heard_30 : decode cX8_heard 30 = .ok (.iload_n 1, 1) := by decide +kernel
theorem dX8_heard_31 : decode cX8_heard 31 = .ok (.iload_n 2, 1) := by decide +kernel
theorem dX8_heard_32 : decode cX8_heard 32 = .ok (.invokevirtual 148, 3) := by decide +kernel
theorem dX8_heard_35 : decode cX8_heard 35 = .ok (.ireturn, 1) := by decide +kernel
set_option maxRecDepth 20000 in
theorem ggX8_hush_X8_isOne : GoodIn wsX8_hush wsX8_isOne := goodIn_r _ [6, 1, 7, 63, 64, 65, 66, 67, 68, 69, 70, 71, 72, 73, 74, 75, 76, 77, 78, 79, 80, 81, 82, 83, 84, 85] (by decide +kernel) (by decide +kernel)
set_option maxRecDepth 20000 in
theorem gX8_hush_X8_isOne : GoodIn wsX8_hush (wsV RX8 134 RX8 yX8_isOne wsX8_isOne) := goodIn_app (goodIn_of _ (by decide +kernel)) ggX8_hush_X8_isOne
set_option maxRecDepth 20000 in
theorem ggX8_hush_X6_everyone : GoodIn wsX8_hush wsX6_everyone := goodIn_r _ [12, 13, 75, 76, 77, 78, 79, 80, 81, 82, 83, 84, 85] (by decide +kernel) (by decide +kernel)
set_option maxRecDepth 20000 in
theorem gX8_hush_X6_everyone : GoodIn wsX8_hush (wsV RX8 192 RX6 yX6_everyone wsX6_everyone) := goodIn_app (goodIn_of _ (by decide +kernel)) ggX8_hush_X6_everyone
set_option maxRecDepth 20000 in
theorem ggX8_hush_X8_isFewer : GoodIn wsX8_hush wsX8_isFewer := goodIn_r _ [16, 17, 18, 19, 20, 21, 22, 23] (by decide +kernel) (by decide +kernel)
set_option maxRecDepth 20000 in
theorem gX8_hush_X8_isFewer : GoodIn wsX8_hush (va_wsS RX8 196 yX8_isFewer wsX8_isFewer) := goodIn_app (goodIn_of _ (by decide +kernel)) ggX8_hush_X8_isFewer
set_option maxRecDepth 20000 in
theorem ggX8_hush_X6_whoHear : GoodIn wsX8_hush wsX6_whoHear := goodIn_r _ [27, 28, 9, 10, 11, 12, 13, 29, 30, 31, 32, 33, 34, 35, 36, 37, 38, 39, 40, 41, 42, 43, 44, 45, 46, 47, 48, 49, 50, 51, 52, 53, 54, 55, 56, 57, 75, 76, 77, 78, 79, 80, 81, 82, 83, 84, 85] (by decide +kernel) (by decide +kernel)
set_option maxRecDepth 20000 in
theorem gX8_hush_X6_whoHear : GoodIn wsX8_hush (wsV RX8 148 RX6 yX6_whoHear wsX6_whoHear) := goodIn_app (goodIn_of _ (by decide +kernel)) ggX8_hush_X6_whoHear
set_option maxRecDepth 20000 in
theorem ggX8_hush_X8_tellSet : GoodIn wsX8_hush wsX8_tellSet := goodIn_r _ [61, 62, 17, 18, 19, 20, 21, 22, 23, 63, 64, 65, 66, 67, 68, 69, 70, 71, 72, 73, 74] (by decide +kernel) (by decide +kernel)
set_option maxRecDepth 20000 in
theorem gX8_hush_X8_tellSet : GoodIn wsX8_hush (wsV RX8 199 RX8 yX8_tellSet wsX8_tellSet) := goodIn_app (goodIn_of _ (by decide +kernel)) ggX8_hush_X8_tellSet
theorem dX8_hush_0 : decode cX8_hush 0 = .ok (.aload_n 0, 1) := by decide +kernel
theorem dX8_hush_1 : decode cX8_hush 1 = .ok (.iload_n 1, 1) := by decide +kernel
theorem dX8_hush_2 : decode cX8_hush 2 = .ok (.invokevirtual 134, 3) := by decide +kernel
theorem dX8_hush_5 : decode cX8_hush 5 = .ok (.ifCond .ne 5, 3) := by decide +kernel
theorem dX8_hush_8 : decode cX8_hush 8 = .ok (.iconst (-1), 1) := by decide +kernel
theorem dX8_hush_9 : decode cX8_hush 9 = .ok (.ireturn, 1) := by decide +kernel
theorem dX8_hush_10 : decode cX8_hush 10 = .ok (.bipush (-9), 2) := by decide +kernel
theorem dX8_hush_12 : decode cX8_hush 12 = .ok (.istore_n 2, 1) := by decide +kernel
theorem dX8_hush_13 : decode cX8_hush 13 = .ok (.iconst 0, 1) := by decide +kernel
theorem dX8_hush_14 : decode cX8_hush 14 = .ok (.istore_n 3, 1) := by decide +kernel
theorem dX8_hush_15 : decode cX8_hush 15 = .ok (.iload_n 3, 1) := by decide +kernel
theorem dX8_hush_16 : decode cX8_hush 16 = .ok (.aload_n 0, 1) := by decide +kernel
theorem dX8_hush_17 : decode cX8_hush 17 = .ok (.getfield 24, 3) := by decide +kernel
theorem dX8_hush_20 : decode cX8_hush 20 = .ok (.invokevirtual 192, 3) := by decide +kernel
theorem dX8_hush_23 : decode cX8_hush 23 = .ok (.if_icmp .gt 39, 3) := by decide +kernel
theorem dX8_hush_26 : decode cX8_hush 26 = .ok (.iload_n 3, 1) := by decide +kernel
theorem dX8_hush_27 : decode cX8_hush 27 = .ok (.iload_n 1, 1) := by decide +kernel
theorem dX8_hush_28 : decode cX8_hush 28 = .ok (.ishr, 1) := by decide +kernel
theorem dX8_hush_29 : decode cX8_hush 29 = .ok (.iconst 1, 1) := by decide +kernel
theorem dX8_hush_30 : decode cX8_hush 30 = .ok (.iand, 1) := by decide +kernel
theorem dX8_hush_31 : decode cX8_hush 31 = .ok (.ifCond .ne 25, 3) := by decide +kernel
theorem dX8_hush_34 : decode cX8_hush 34 = .ok (.iload_n 3, 1) := by decide +kernel
theorem dX8_hush_35 : decode cX8_hush 35 = .ok (.iload_n 2, 1) := by decide +kernel
theorem dX8_hush_36 : decode cX8_hush 36 = .ok (.invokestatic 196, 3) := by decide +kernel
theorem dX8_hush_39 : decode cX8_hush 39 = .ok (.ifCond .eq 17, 3) := by decide +kernel
theorem dX8_hush_42 : decode cX8_hush 42 = .ok (.aload_n 0, 1) := by decide +kernel
theorem dX8_hush_43 : decode cX8_hush 43 = .ok (.getfield 24, 3) := by decide +kernel
theorem dX8_hush_46 : decode cX8_hush 46 = .ok (.iload_n 1, 1) := by decide +kernel
theorem dX8_hush_47 : decode cX8_hush 47 = .ok (.iload_n 3, 1) := by decide +kernel
theorem dX8_hush_48 : decode cX8_hush 48 = .ok (.invokevirtual 148, 3) := by decide +kernel
theorem dX8_hush_51 : decode cX8_hush 51 = .ok (.ifCond .ne 5, 3) := by decide +kernel
theorem dX8_hush_54 : decode cX8_hush 54 = .ok (.iload_n 3, 1) := by decide +kernel
theorem dX8_hush_55 : decode cX8_hush 55 = .ok (.istore_n 2, 1) := by decide +kernel
theorem dX8_hush_56 : decode cX8_hush 56 = .ok (.iinc 3 1, 3) := by decide +kernel
theorem dX8_hush_59 : decode cX8_hush 59 = .ok (.goto (-44), 3) := by decide +kernel
theorem dX8_hush_62 : decode cX8_hush 62 = .ok (.aload_n 0, 1) := by decide +kernel
theorem dX8_hush_63 : decode cX8_hush 63 = .ok (.iload_n 2, 1) := by decide +kernel
theorem dX8_hush_64 : decode cX8_hush 64 = .ok (.invokevirtual 199, 3) := by decide +kernel
theorem dX8_hush_67 : decode cX8_hush 67 = .ok (.ireturn, 1) := by decide +kernel
set_option maxRecDepth 20000 in
theorem ggX8_talk_X8_areTwo : GoodIn wsX8_talk wsX8_areTwo := goodIn_r _ [7, 8, 9, 10, 6, 11, 1, 12, 31, 32, 33, 34, 35, 36, 37, 38, 39, 40, 41, 42, 43, 44, 45, 46, 47, 48, 49, 50, 51, 52, 53] (by decide +kernel) (by decide +kernel)
set_option maxRecDepth 20000 in
theorem gX8_talk_X8_areTwo : GoodIn wsX8_talk (wsV RX8 180 RX8 yX8_areTwo wsX8_areTwo) := goodIn_app (goodIn_of _ (by decide +kernel)) ggX8_talk_X8_areTwo
set_option maxRecDepth 20000 in
theorem ggX8_talk_X8_isSet : GoodIn wsX8_talk wsX8_isSet := goodIn_r _ [16, 1, 17, 18, 19, 20, 21, 22, 31, 32, 33, 34, 35, 36, 37, 38, 39, 40, 41, 42, 43, 44, 45, 46, 47, 48, 49, 50, 51, 52, 53] (by decide +kernel) (by decide +kernel)
set_option maxRecDepth 20000 in
theorem gX8_talk_X8_isSet : GoodIn wsX8_talk (wsV RX8 189 RX8 yX8_isSet wsX8_isSet) := goodIn_app (goodIn_of _ (by decide +kernel)) ggX8_talk_X8_isSet
set_option maxRecDepth 20000 in
theorem ggX8_talk_X6_addTalk : GoodIn wsX8_talk wsX6_addTalk := goodIn_r _ [26, 27, 28, 29, 30, 43, 44, 45, 46, 47, 48, 49, 50, 51, 52, 53] (by decide +kernel) (by decide +kernel)
set_option maxRecDepth 20000 in
theorem gX8_talk_X6_addTalk : GoodIn wsX8_talk (wsV RX8 205 RX6 yX6_addTalk wsX6_addTalk) := goodIn_app (goodIn_of _ (by decide +kernel)) ggX8_talk_X6_addTalk
theorem dX8_talk_0 : decode cX8_talk 0 = .ok (.aload_n 0, 1) := by decide +kernel
theorem dX8_talk_1 : decode cX8_talk 1 = .ok (.iload_n 1, 1) := by decide +kernel
theorem dX8_talk_2 : decode cX8_talk 2 = .ok (.iload_n 2, 1) := by decide +kernel
theorem dX8_talk_3 : decode cX8_talk 3 = .ok (.invokevirtual 180, 3) := by decide +kernel
theorem dX8_talk_6 : decode cX8_talk 6 = .ok (.ifCond .eq 27, 3) := by decide +kernel
theorem dX8_talk_9 : decode cX8_talk 9 = .ok (.aload_n 0, 1) := by decide +kernel
theorem dX8_talk_10 : decode cX8_talk 10 = .ok (.iload_n 3, 1) := by decide +kernel
theorem dX8_talk_11 : decode cX8_talk 11 = .ok (.invokevirtual 189, 3) := by decide +kernel
theorem dX8_talk_14 : decode cX8_talk 14 = .ok (.ifCond .eq 19, 3) := by decide +kernel
theorem dX8_talk_17 : decode cX8_talk 17 = .ok (.iload_n 3, 1) := by decide +kernel
theorem dX8_talk_18 : decode cX8_talk 18 = .ok (.iload_n 1, 1) := by decide +kernel
theorem dX8_talk_19 : decode cX8_talk 19 = .ok (.ishr, 1) := by decide +kernel
theorem dX8_talk_20 : decode cX8_talk 20 = .ok (.iconst 1, 1) := by decide +kernel
theorem dX8_talk_21 : decode cX8_talk 21 = .ok (.iand, 1) := by decide +kernel
theorem dX8_talk_22 : decode cX8_talk 22 = .ok (.ifCond .ne 11, 3) := by decide +kernel
theorem dX8_talk_25 : decode cX8_talk 25 = .ok (.iload_n 3, 1) := by decide +kernel
theorem dX8_talk_26 : decode cX8_talk 26 = .ok (.iload_n 2, 1) := by decide +kernel
theorem dX8_talk_27 : decode cX8_talk 27 = .ok (.ishr, 1) := by decide +kernel
theorem dX8_talk_28 : decode cX8_talk 28 = .ok (.iconst 1, 1) := by decide +kernel
theorem dX8_talk_29 : decode cX8_talk 29 = .ok (.iand, 1) := by decide +kernel
theorem dX8_talk_30 : decode cX8_talk 30 = .ok (.ifCond .eq 5, 3) := by decide +kernel
theorem dX8_talk_33 : decode cX8_talk 33 = .ok (.iconst (-1), 1) := by decide +kernel
theorem dX8_talk_34 : decode cX8_talk 34 = .ok (.ireturn, 1) := by decide +kernel
theorem dX8_talk_35 : decode cX8_talk 35 = .ok (.aload_n 0, 1) := by decide +kernel
theorem dX8_talk_36 : decode cX8_talk 36 = .ok (.getfield 24, 3) := by decide +kernel
theorem dX8_talk_39 : decode cX8_talk 39 = .ok (.getfield 202, 3) := by decide +kernel
theorem dX8_talk_42 : decode cX8_talk 42 = .ok (.bipush 8, 2) := by decide +kernel
theorem dX8_talk_44 : decode cX8_talk 44 = .ok (.if_icmp .lt 6, 3) := by decide +kernel
theorem dX8_talk_47 : decode cX8_talk 47 = .ok (.bipush (-2), 2) := by decide +kernel
theorem dX8_talk_49 : decode cX8_talk 49 = .ok (.ireturn, 1) := by decide +kernel
theorem dX8_talk_50 : decode cX8_talk 50 = .ok (.aload_n 0, 1) := by decide +kernel
theorem dX8_talk_51 : decode cX8_talk 51 = .ok (.getfield 24, 3) := by decide +kernel
theorem dX8_talk_54 : decode cX8_talk 54 = .ok (.iload_n 1, 1) := by decide +kernel
theorem dX8_talk_55 : decode cX8_talk 55 = .ok (.iload_n 2, 1) := by decide +kernel
theorem dX8_talk_56 : decode cX8_talk 56 = .ok (.iload_n 3, 1) := by decide +kernel
theorem dX8_talk_57 : decode cX8_talk 57 = .ok (.invokevirtual 205, 3) := by decide +kernel
theorem dX8_talk_60 : decode cX8_talk 60 = .ok (.ireturn, 1) := by decide +kernel
set_option maxRecDepth 20000 in
theorem ggX8_safe_X8_isSet : GoodIn wsX8_safe wsX8_isSet := goodIn_r _ [10, 1, 11, 12, 13, 14, 15, 16, 72, 73, 74, 75, 76, 77, 78, 79, 80, 81, 82, 83, 84, 85, 86, 87, 88, 89, 90, 91, 92, 93, 94] (by decide +kernel) (by decide +kernel)
set_option maxRecDepth 20000 in
theorem gX8_safe_X8_isSet : GoodIn wsX8_safe (wsV RX8 189 RX8 yX8_isSet wsX8_isSet) := goodIn_app (goodIn_of _ (by decide +kernel)) ggX8_safe_X8_isSet
set_option maxRecDepth 20000 in
theorem ggX8_safe_X8_find : GoodIn wsX8_safe wsX8_find := goodIn_r _ [20, 21, 22, 72, 73, 74, 75, 76, 77, 78, 79, 80, 81, 82, 83] (by decide +kernel) (by decide +kernel)
set_option maxRecDepth 20000 in
theorem gX8_safe_X8_find : GoodIn wsX8_safe (wsV RX8 70 RX8 yX8_find wsX8_find) := goodIn_app (goodIn_of _ (by decide +kernel)) ggX8_safe_X8_find
set_option maxRecDepth 20000 in
theorem ggX8_safe_X6_whoHear : GoodIn wsX8_safe wsX6_whoHear := goodIn_r _ [26, 27, 12, 13, 14, 15, 16, 28, 29, 30, 31, 32, 33, 34, 35, 36, 37, 38, 39, 40, 41, 42, 43, 44, 45, 46, 47, 48, 49, 50, 51, 52, 53, 54, 55, 56, 84, 85, 86, 87, 88, 89, 90, 91, 92, 93, 94] (by decide +kernel) (by decide +kernel)
set_option maxRecDepth 20000 in
theorem gX8_safe_X6_whoHear : GoodIn wsX8_safe (wsV RX8 148 RX6 yX6_whoHear wsX6_whoHear) := goodIn_app (goodIn_of _ (by decide +kernel)) ggX8_safe_X6_whoHear
set_option maxRecDepth 20000 in
theorem ggX8_safe_X6_isSafe : GoodIn wsX8_safe wsX6_isSafe := goodIn_r _ [60, 61, 62, 63, 14, 64, 65, 66, 27, 12, 13, 15, 16, 67, 68, 69, 70, 71, 28, 29, 30, 31, 32, 33, 34, 35, 36, 37, 38, 39, 40, 41, 42, 43, 44, 45, 46, 47, 48, 49, 50, 51, 52, 53, 54, 55, 56, 84, 85, 86, 87, 88, 89, 90, 91, 92, 93, 94] (by decide +kernel) (by decide +kernel)
set_option maxRecDepth 20000 in
theorem gX8_safe_X6_isSafe : GoodIn wsX8_safe (wsV RX8 218 RX6 yX6_isSafe wsX6_isSafe) := goodIn_app (goodIn_of _ (by decide +kernel)) ggX8_safe_X6_isSafe
theorem dX8_safe_0 : decode cX8_safe 0 = .ok (.iload_n 1, 1) := by decide +kernel
theorem dX8_safe_1 : decode cX8_safe 1 = .ok (.ifCond .lt 11, 3) := by decide +kernel
theorem dX8_safe_4 : decode cX8_safe 4 = .ok (.aload_n 0, 1) := by decide +kernel
theorem dX8_safe_5 : decode cX8_safe 5 = .ok (.iload_n 2, 1) := by decide +kernel
theorem dX8_safe_6 : decode cX8_safe 6 = .ok (.invokevirtual 189, 3) := by decide +kernel
theorem dX8_safe_9 : decode cX8_safe 9 = .ok (.ifCond .ne 5, 3) := by decide +kernel
theorem dX8_safe_12 : decode cX8_safe 12 = .ok (.iconst (-1), 1) := by decide +kernel
theorem dX8_safe_13 : decode cX8_safe 13 = .ok (.ireturn, 1) := by decide +kernel
theorem dX8_safe_14 : decode cX8_safe 14 = .ok (.iload_n 1, 1) := by decide +kernel
theorem dX8_safe_15 : decode cX8_safe 15 = .ok (.aload_n 0, 1) := by decide +kernel
theorem dX8_safe_16 : decode cX8_safe 16 = .ok (.getfield 24, 3) := by decide +kernel
theorem dX8_safe_19 : decode cX8_safe 19 = .ok (.getfield 202, 3) := by decide +kernel
theorem dX8_safe_22 : decode cX8_safe 22 = .ok (.if_icmp .lt 9, 3) := by decide +kernel
theorem dX8_safe_25 : decode cX8_safe 25 = .ok (.aload_n 0, 1) := by decide +kernel
theorem dX8_safe_26 : decode cX8_safe 26 = .ok (.iconst 2, 1) := by decide +kernel
theorem dX8_safe_27 : decode cX8_safe 27 = .ok (.invokevirtual 70, 3) := by decide +kernel
theorem dX8_safe_30 : decode cX8_safe 30 = .ok (.ireturn, 1) := by decide +kernel
theorem dX8_safe_31 : decode cX8_safe 31 = .ok (.aload_n 0, 1) := by decide +kernel
theorem dX8_safe_32 : decode cX8_safe 32 = .ok (.aload_n 0, 1) := by decide +kernel
theorem dX8_safe_33 : decode cX8_safe 33 = .ok (.getfield 24, 3) := by decide +kernel
theorem dX8_safe_36 : decode cX8_safe 36 = .ok (.aload_n 0, 1) := by decide +kernel
theorem dX8_safe_37 : decode cX8_safe 37 = .ok (.getfield 24, 3) := by decide +kernel
theorem dX8_safe_40 : decode cX8_safe 40 = .ok (.getfield 212, 3) := by decide +kernel
theorem dX8_safe_43 : decode cX8_safe 43 = .ok (.iload_n 1, 1) := by decide +kernel
theorem dX8_safe_44 : decode cX8_safe 44 = .ok (.iaload, 1) := by decide +kernel
theorem dX8_safe_45 : decode cX8_safe 45 = .ok (.iload_n 2, 1) := by decide +kernel
theorem dX8_safe_46 : decode cX8_safe 46 = .ok (.invokevirtual 148, 3) := by decide +kernel
theorem dX8_safe_49 : decode cX8_safe 49 = .ok (.aload_n 0, 1) := by decide +kernel
theorem dX8_safe_50 : decode cX8_safe 50 = .ok (.getfield 24, 3) := by decide +kernel
theorem dX8_safe_53 : decode cX8_safe 53 = .ok (.getfield 215, 3) := by decide +kernel
theorem dX8_safe_56 : decode cX8_safe 56 = .ok (.iload_n 1, 1) := by decide +kernel
theorem dX8_safe_57 : decode cX8_safe 57 = .ok (.iaload, 1) := by decide +kernel
theorem dX8_safe_58 : decode cX8_safe 58 = .ok (.iand, 1) := by decide +kernel
theorem dX8_safe_59 : decode cX8_safe 59 = .ok (.putfield 92, 3) := by decide +kernel
theorem dX8_safe_62 : decode cX8_safe 62 = .ok (.aload_n 0, 1) := by decide +kernel
theorem dX8_safe_63 : decode cX8_safe 63 = .ok (.getfield 24, 3) := by decide +kernel
theorem dX8_safe_66 : decode cX8_safe 66 = .ok (.iload_n 1, 1) := by decide +kernel
theorem dX8_safe_67 : decode cX8_safe 67 = .ok (.iload_n 2, 1) := by decide +kernel
theorem dX8_safe_68 : decode cX8_safe 68 = .ok (.invokevirtual 218, 3) := by decide +kernel
theorem dX8_safe_71 : decode cX8_safe 71 = .ok (.ifCond .eq 7, 3) := by decide +kernel
theorem dX8_safe_74 : decode cX8_safe 74 = .ok (.iconst 1, 1) := by decide +kernel
theorem dX8_safe_75 : decode cX8_safe 75 = .ok (.goto 4, 3) := by decide +kernel
theorem dX8_safe_78 : decode cX8_safe 78 = .ok (.iconst 0, 1) := by decide +kernel
theorem dX8_safe_79 : decode cX8_safe 79 = .ok (.ireturn, 1) := by decide +kernel
set_option maxRecDepth 20000 in
theorem ggX8_cover_X8_find : GoodIn wsX8_cover wsX8_find := goodIn_r _ [7, 8, 9, 76, 77, 78, 79, 80, 81, 82, 83, 84, 85, 86, 87] (by decide +kernel) (by decide +kernel)
set_option maxRecDepth 20000 in
theorem gX8_cover_X8_find : GoodIn wsX8_cover (wsV RX8 70 RX8 yX8_find wsX8_find) := goodIn_app (goodIn_of _ (by decide +kernel)) ggX8_cover_X8_find
set_option maxRecDepth 20000 in
theorem ggX8_cover_X6_everyone : GoodIn wsX8_cover wsX6_everyone := goodIn_r _ [14, 15, 88, 89, 90, 91, 92, 93, 94, 95, 96, 97, 98] (by decide +kernel) (by decide +kernel)
set_option maxRecDepth 20000 in
theorem gX8_cover_X6_everyone : GoodIn wsX8_cover (wsV RX8 192 RX6 yX6_everyone wsX6_everyone) := goodIn_app (goodIn_of _ (by decide +kernel)) ggX8_cover_X6_everyone
set_option maxRecDepth 20000 in
theorem ggX8_cover_X8_isFewer : GoodIn wsX8_cover wsX8_isFewer := goodIn_r _ [18, 19, 20, 21, 22, 23, 24, 25] (by decide +kernel) (by decide +kernel)
set_option maxRecDepth 20000 in
theorem gX8_cover_X8_isFewer : GoodIn wsX8_cover (va_wsS RX8 196 yX8_isFewer wsX8_isFewer) := goodIn_app (goodIn_of _ (by decide +kernel)) ggX8_cover_X8_isFewer
set_option maxRecDepth 20000 in
theorem ggX8_cover_X6_isSafe : GoodIn wsX8_cover wsX6_isSafe := goodIn_r _ [29, 30, 31, 32, 13, 33, 34, 35, 36, 11, 12, 14, 15, 37, 38, 39, 40, 41, 42, 43, 44, 45, 46, 47, 48, 49, 50, 51, 52, 53, 54, 55, 56, 57, 58, 59, 60, 61, 62, 63, 64, 65, 66, 67, 68, 69, 70, 88, 89, 90, 91, 92, 93, 94, 95, 96, 97, 98] (by decide +kernel) (by decide +kernel)
set_option maxRecDepth 20000 in
theorem gX8_cover_X6_isSafe : GoodIn wsX8_cover (wsV RX8 218 RX6 yX6_isSafe wsX6_isSafe) := goodIn_app (goodIn_of _ (by decide +kernel)) ggX8_cover_X6_isSafe
set_option maxRecDepth 20000 in
theorem ggX8_cover_X8_tellSet : GoodIn wsX8_cover wsX8_tellSet := goodIn_r _ [74, 75, 19, 20, 21, 22, 23, 24, 25, 76, 77, 78, 79, 80, 81, 82, 83, 84, 85, 86, 87] (by decide +kernel) (by decide +kernel)
set_option maxRecDepth 20000 in
theorem gX8_cover_X8_tellSet : GoodIn wsX8_cover (wsV RX8 199 RX8 yX8_tellSet wsX8_tellSet) := goodIn_app (goodIn_of _ (by decide +kernel)) ggX8_cover_X8_tellSet
theorem dX8_cover_0 : decode cX8_cover 0 = .ok (.iload_n 1, 1) := by decide +kernel
theorem dX8_cover_1 : decode cX8_cover 1 = .ok (.ifCond .ge 5, 3) := by decide +kernel
theorem dX8_cover_4 : decode cX8_cover 4 = .ok (.iconst (-1), 1) := by decide +kernel
theorem dX8_cover_5 : decode cX8_cover 5 = .ok (.ireturn, 1) := by decide +kernel
theorem dX8_cover_6 : decode cX8_cover 6 = .ok (.iload_n 1, 1) := by decide +kernel
theorem dX8_cover_7 : decode cX8_cover 7 = .ok (.aload_n 0, 1) := by decide +kernel
theorem dX8_cover_8 : decode cX8_cover 8 = .ok (.getfield 24, 3) := by decide +kernel
theorem dX8_cover_11 : decode cX8_cover 11 = .ok (.getfield 202, 3) := by decide +kernel
theorem dX8_cover_14 : decode cX8_cover 14 = .ok (.if_icmp .lt 9, 3) := by decide +kernel
theorem dX8_cover_17 : decode cX8_cover 17 = .ok (.aload_n 0, 1) := by decide +kernel
theorem dX8_cover_18 : decode cX8_cover 18 = .ok (.iconst 2, 1) := by decide +kernel
theorem dX8_cover_19 : decode cX8_cover 19 = .ok (.invokevirtual 70, 3) := by decide +kernel
theorem dX8_cover_22 : decode cX8_cover 22 = .ok (.ireturn, 1) := by decide +kernel
theorem dX8_cover_23 : decode cX8_cover 23 = .ok (.bipush (-9), 2) := by decide +kernel
theorem dX8_cover_25 : decode cX8_cover 25 = .ok (.istore_n 2, 1) := by decide +kernel
theorem dX8_cover_26 : decode cX8_cover 26 = .ok (.iconst 0, 1) := by decide +kernel
theorem dX8_cover_27 : decode cX8_cover 27 = .ok (.istore_n 3, 1) := by decide +kernel
theorem dX8_cover_28 : decode cX8_cover 28 = .ok (.iload_n 3, 1) := by decide +kernel
theorem dX8_cover_29 : decode cX8_cover 29 = .ok (.aload_n 0, 1) := by decide +kernel
theorem dX8_cover_30 : decode cX8_cover 30 = .ok (.getfield 24, 3) := by decide +kernel
theorem dX8_cover_33 : decode cX8_cover 33 = .ok (.invokevirtual 192, 3) := by decide +kernel
theorem dX8_cover_36 : decode cX8_cover 36 = .ok (.if_icmp .gt 31, 3) := by decide +kernel
theorem dX8_cover_39 : decode cX8_cover 39 = .ok (.iload_n 3, 1) := by decide +kernel
theorem dX8_cover_40 : decode cX8_cover 40 = .ok (.iload_n 2, 1) := by decide +kernel
theorem dX8_cover_41 : decode cX8_cover 41 = .ok (.invokestatic 196, 3) := by decide +kernel
theorem dX8_cover_44 : decode cX8_cover 44 = .ok (.ifCond .eq 17, 3) := by decide +kernel
theorem dX8_cover_47 : decode cX8_cover 47 = .ok (.aload_n 0, 1) := by decide +kernel
theorem dX8_cover_48 : decode cX8_cover 48 = .ok (.getfield 24, 3) := by decide +kernel
theorem dX8_cover_51 : decode cX8_cover 51 = .ok (.iload_n 1, 1) := by decide +kernel
theorem dX8_cover_52 : decode cX8_cover 52 = .ok (.iload_n 3, 1) := by decide +kernel
theorem dX8_cover_53 : decode cX8_cover 53 = .ok (.invokevirtual 218, 3) := by decide +kernel
theorem dX8_cover_56 : decode cX8_cover 56 = .ok (.ifCond .eq 5, 3) := by decide +kernel
theorem dX8_cover_59 : decode cX8_cover 59 = .ok (.iload_n 3, 1) := by decide +kernel
theorem dX8_cover_60 : decode cX8_cover 60 = .ok (.istore_n 2, 1) := by decide +kernel
theorem dX8_cover_61 : decode cX8_cover 61 = .ok (.iinc 3 1, 3) := by decide +kernel
theorem dX8_cover_64 : decode cX8_cover 64 = .ok (.goto (-36), 3) := by decide +kernel
theorem dX8_cover_67 : decode cX8_cover 67 = .ok (.aload_n 0, 1) := by decide +kernel
theorem dX8_cover_68 : decode cX8_cover 68 = .ok (.iload_n 2, 1) := by decide +kernel
theorem dX8_cover_69 : decode cX8_cover 69 = .ok (.invokevirtual 199, 3) := by decide +kernel
theorem dX8_cover_72 : decode cX8_cover 72 = .ok (.ireturn, 1) := by decide +kernel
set_option maxRecDepth 20000 in
theorem ggX8_beside_X6_everyTalk : GoodIn wsX8_beside wsX6_everyTalk := goodIn_r _ [6, 7, 69, 70, 71, 72, 73, 74, 75, 76, 77, 78, 79] (by decide +kernel) (by decide +kernel)
set_option maxRecDepth 20000 in
theorem gX8_beside_X6_everyTalk : GoodIn wsX8_beside (wsV RX8 221 RX6 yX6_everyTalk wsX6_everyTalk) := goodIn_app (goodIn_of _ (by decide +kernel)) ggX8_beside_X6_everyTalk
set_option maxRecDepth 20000 in
theorem ggX8_beside_X6_goTogether : GoodIn wsX8_beside wsX6_goTogether := goodIn_r _ [11, 7, 12, 13, 14, 15, 5, 16, 17, 18, 19, 20, 21, 22, 23, 24, 25, 26, 27, 28, 29, 30, 31, 32, 33, 34, 35, 36, 37, 38, 39, 40, 41, 42, 43, 44, 45, 46, 47, 48, 49, 50, 51, 52, 53, 54, 55, 56, 69, 70, 71, 72, 73, 74, 75, 76, 77, 78, 79] (by decide +kernel) (by decide +kernel)
set_option maxRecDepth 20000 in
theorem gX8_beside_X6_goTogether : GoodIn wsX8_beside (wsV RX8 224 RX6 yX6_goTogether wsX6_goTogether) := goodIn_app (goodIn_of _ (by decide +kernel)) ggX8_beside_X6_goTogether
theorem dX8_beside_0 : decode cX8_beside 0 = .ok (.iload_n 1, 1) := by decide +kernel
theorem dX8_beside_1 : decode cX8_beside 1 = .ok (.ifCond .lt 14, 3) := by decide +kernel
theorem dX8_beside_4 : decode cX8_beside 4 = .ok (.iload_n 1, 1) := by decide +kernel
theorem dX8_beside_5 : decode cX8_beside 5 = .ok (.aload_n 0, 1) := by decide +kernel
theorem dX8_beside_6 : decode cX8_beside 6 = .ok (.getfield 24, 3) := by decide +kernel
theorem dX8_beside_9 : decode cX8_beside 9 = .ok (.invokevirtual 221, 3) := by decide +kernel
theorem dX8_beside_12 : decode cX8_beside 12 = .ok (.if_icmp .le 5, 3) := by decide +kernel
theorem dX8_beside_15 : decode cX8_beside 15 = .ok (.iconst (-1), 1) := by decide +kernel
theorem dX8_beside_16 : decode cX8_beside 16 = .ok (.ireturn, 1) := by decide +kernel
theorem dX8_beside_17 : decode cX8_beside 17 = .ok (.aload_n 0, 1) := by decide +kernel
theorem dX8_beside_18 : decode cX8_beside 18 = .ok (.getfield 24, 3) := by decide +kernel
theorem dX8_beside_21 : decode cX8_beside 21 = .ok (.iload_n 1, 1) := by decide +kernel
theorem dX8_beside_22 : decode cX8_beside 22 = .ok (.invokevirtual 224, 3) := by decide +kernel
theorem dX8_beside_25 : decode cX8_beside 25 = .ok (.ifCond .eq 7, 3) := by decide +kernel
theorem dX8_beside_28 : decode cX8_beside 28 = .ok (.iconst 1, 1) := by decide +kernel
theorem dX8_beside_29 : decode cX8_beside 29 = .ok (.goto 4, 3) := by decide +kernel
theorem dX8_beside_32 : decode cX8_beside 32 = .ok (.iconst 0, 1) := by decide +kernel
theorem dX8_beside_33 : decode cX8_beside 33 = .ok (.ireturn, 1) := by decide +kernel
set_option maxRecDepth 20000 in
theorem ggX8_turns_X3_draw : GoodIn wsX8_turns wsX3_draw := goodIn_r _ [8, 9, 10, 11, 12, 13, 14, 15, 16, 17, 18, 19, 20, 21, 22, 23, 24, 25, 26, 27, 28, 29, 30, 31, 32, 33, 34, 35, 36, 37, 38, 39, 40, 41, 42, 43, 44, 45, 46, 47, 48, 49, 50, 51, 52, 53, 54, 55, 56, 57, 58, 59, 60, 61, 62, 63, 64, 65, 66, 67, 68, 7, 69, 70, 71, 72, 93, 94, 95, 96, 97, 98, 99, 100, 101, 102, 103, 104, 105] (by decide +kernel) (by decide +kernel)
set_option maxRecDepth 20000 in
theorem gX8_turns_X3_draw : GoodIn wsX8_turns (wsV RX8 227 RX3 yX3_draw wsX3_draw) := goodIn_app (goodIn_of _ (by decide +kernel)) ggX8_turns_X3_draw
set_option maxRecDepth 20000 in
theorem ggX8_turns_X3_hours : GoodIn wsX8_turns wsX3_hours := goodIn_r _ [76, 10, 11, 12, 13, 14, 15, 16, 93, 94, 95, 96, 97, 98, 99, 100, 101, 102, 103, 104, 105] (by decide +kernel) (by decide +kernel)
set_option maxRecDepth 20000 in
theorem gX8_turns_X3_hours : GoodIn wsX8_turns (wsV RX8 230 RX3 yX3_hours wsX3_hours) := goodIn_app (goodIn_of _ (by decide +kernel)) ggX8_turns_X3_hours
set_option maxRecDepth 20000 in
theorem ggX8_turns_X3_firstHour : GoodIn wsX8_turns wsX3_firstHour := goodIn_r _ [80, 9, 10, 11, 12, 13, 14, 15, 16, 93, 94, 95, 96, 97, 98, 99, 100, 101, 102, 103, 104, 105] (by decide +kernel) (by decide +kernel)
set_option maxRecDepth 20000 in
theorem gX8_turns_X3_firstHour : GoodIn wsX8_turns (wsV RX8 234 RX3 yX3_firstHour wsX3_firstHour) := goodIn_app (goodIn_of _ (by decide +kernel)) ggX8_turns_X3_firstHour
theorem dX8_turns_0 : decode cX8_turns 0 = .ok (.aload_n 0, 1) := by decide +kernel
theorem dX8_turns_1 : decode cX8_turns 1 = .ok (.getfield 42, 3) := by decide +kernel
theorem dX8_turns_4 : decode cX8_turns 4 = .ok (.aload_n 0, 1) := by decide +kernel
theorem dX8_turns_5 : decode cX8_turns 5 = .ok (.getfield 24, 3) := by decide +kernel
theorem dX8_turns_8 : decode cX8_turns 8 = .ok (.invokevirtual 227, 3) := by decide +kernel
theorem dX8_turns_11 : decode cX8_turns 11 = .ok (.aload_n 0, 1) := by decide +kernel
theorem dX8_turns_12 : decode cX8_turns 12 = .ok (.getfield 42, 3) := by decide +kernel
theorem dX8_turns_15 : decode cX8_turns 15 = .ok (.aload_n 0, 1) := by decide +kernel
theorem dX8_turns_16 : decode cX8_turns 16 = .ok (.getfield 24, 3) := by decide +kernel
theorem dX8_turns_19 : decode cX8_turns 19 = .ok (.invokevirtual 230, 3) := by decide +kernel
theorem dX8_turns_22 : decode cX8_turns 22 = .ok (.istore_n 1, 1) := by decide +kernel
theorem dX8_turns_23 : decode cX8_turns 23 = .ok (.iload_n 1, 1) := by decide +kernel
theorem dX8_turns_24 : decode cX8_turns 24 = .ok (.bipush (-9), 2) := by decide +kernel
theorem dX8_turns_26 : decode cX8_turns 26 = .ok (.if_icmp .ne 6, 3) := by decide +kernel
theorem dX8_turns_29 : decode cX8_turns 29 = .ok (.bipush (-9), 2) := by decide +kernel
theorem dX8_turns_31 : decode cX8_turns 31 = .ok (.ireturn, 1) := by decide +kernel
theorem dX8_turns_32 : decode cX8_turns 32 = .ok (.aload_n 0, 1) := by decide +kernel
theorem dX8_turns_33 : decode cX8_turns 33 = .ok (.aload_n 0, 1) := by decide +kernel
theorem dX8_turns_34 : decode cX8_turns 34 = .ok (.getfield 42, 3) := by decide +kernel
theorem dX8_turns_37 : decode cX8_turns 37 = .ok (.aload_n 0, 1) := by decide +kernel
theorem dX8_turns_38 : decode cX8_turns 38 = .ok (.getfield 24, 3) := by decide +kernel
theorem dX8_turns_41 : decode cX8_turns 41 = .ok (.invokevirtual 234, 3) := by decide +kernel
theorem dX8_turns_44 : decode cX8_turns 44 = .ok (.putfield 92, 3) := by decide +kernel
theorem dX8_turns_47 : decode cX8_turns 47 = .ok (.iload_n 1, 1) := by decide +kernel
theorem dX8_turns_48 : decode cX8_turns 48 = .ok (.ireturn, 1) := by decide +kernel
set_option maxRecDepth 20000 in
theorem ggX8_most_X3_draw : GoodIn wsX8_most wsX3_draw := goodIn_r _ [7, 8, 9, 10, 11, 12, 13, 14, 15, 16, 17, 18, 19, 20, 21, 22, 23, 24, 25, 26, 27, 28, 29, 30, 31, 32, 33, 34, 35, 36, 37, 38, 39, 40, 41, 42, 43, 44, 45, 46, 47, 48, 49, 50, 51, 52, 53, 54, 55, 56, 57, 58, 59, 60, 61, 62, 63, 64, 65, 66, 67, 6, 68, 69, 70, 71, 102, 103, 104, 105, 106, 107, 108, 109, 110, 111, 112, 113, 114] (by decide +kernel) (by decide +kernel)
set_option maxRecDepth 20000 in
theorem gX8_most_X3_draw : GoodIn wsX8_most (wsV RX8 227 RX3 yX3_draw wsX3_draw) := goodIn_app (goodIn_of _ (by decide +kernel)) ggX8_most_X3_draw
set_option maxRecDepth 20000 in
theorem ggX8_most_X3_largest : GoodIn wsX8_most wsX3_largest := goodIn_r _ [75, 8, 10, 11, 12, 13, 14, 15, 76, 77, 78, 79, 80, 81, 82, 102, 103, 104, 105, 106, 107, 108, 109, 110, 111, 112, 113, 114] (by decide +kernel) (by decide +kernel)
set_option maxRecDepth 20000 in
theorem gX8_most_X3_largest : GoodIn wsX8_most (wsV RX8 237 RX3 yX3_largest wsX3_largest) := goodIn_app (goodIn_of _ (by decide +kernel)) ggX8_most_X3_largest
set_option maxRecDepth 20000 in
theorem ggX8_most_X8_tellSet : GoodIn wsX8_most wsX8_tellSet := goodIn_r _ [87, 88, 89, 77, 78, 79, 80, 81, 82, 90, 91, 92, 93, 94, 95, 96, 97, 98, 99, 100, 101] (by decide +kernel) (by decide +kernel)
set_option maxRecDepth 20000 in
theorem gX8_most_X8_tellSet : GoodIn wsX8_most (wsV RX8 199 RX8 yX8_tellSet wsX8_tellSet) := goodIn_app (goodIn_of _ (by decide +kernel)) ggX8_most_X8_tellSet
theorem dX8_most_0 : decode cX8_most 0 = .ok (.aload_n 0, 1) := by decide +kernel
theorem dX8_most_1 : decode cX8_most 1 = .ok (.getfield 42, 3) := by decide +kernel
theorem dX8_most_4 : decode cX8_most 4 = .ok (.aload_n 0, 1) := by decide +kernel
theorem dX8_most_5 : decode cX8_most 5 = .ok (.getfield 24, 3) := by decide +kernel
theorem dX8_most_8 : decode cX8_most 8 = .ok (.invokevirtual 227, 3) := by decide +kernel
theorem dX8_most_11 : decode cX8_most 11 = .ok (.aload_n 0, 1) := by decide +kernel
theorem dX8_most_12 : decode cX8_most 12 = .ok (.aload_n 0, 1) := by decide +kernel
theorem dX8_most_13 : decode cX8_most 13 = .ok (.getfield 42, 3) := by decide +kernel
theorem dX8_most_16 : decode cX8_most 16 = .ok (.aload_n 0, 1) := by decide +kernel
theorem dX8_most_17 : decode cX8_most 17 = .ok (.getfield 24, 3) := by decide +kernel
theorem dX8_most_20 : decode cX8_most 20 = .ok (.invokevirtual 237, 3) := by decide +kernel
theorem dX8_most_23 : decode cX8_most 23 = .ok (.invokevirtual 199, 3) := by decide +kernel
theorem dX8_most_26 : decode cX8_most 26 = .ok (.ireturn, 1) := by decide +kernel
set_option maxRecDepth 20000 in
theorem ggX8_paste_X8_isRow : GoodIn wsX8_paste wsX8_isRow := goodIn_r _ [11] (by decide +kernel) (by decide +kernel)
set_option maxRecDepth 20000 in
theorem gX8_paste_X8_isRow : GoodIn wsX8_paste (va_wsS RX8 66 yX8_isRow wsX8_isRow) := goodIn_app (goodIn_of _ (by decide +kernel)) ggX8_paste_X8_isRow
set_option maxRecDepth 20000 in
theorem ggX8_paste_X8_find : GoodIn wsX8_paste wsX8_find := goodIn_r _ [15, 16, 17, 124, 125, 126, 127, 128, 129, 130, 131, 132, 133, 134, 135] (by decide +kernel) (by decide +kernel)
set_option maxRecDepth 20000 in
theorem gX8_paste_X8_find : GoodIn wsX8_paste (wsV RX8 70 RX8 yX8_find wsX8_find) := goodIn_app (goodIn_of _ (by decide +kernel)) ggX8_paste_X8_find
set_option maxRecDepth 20000 in
theorem ggX8_paste_X6_become : GoodIn wsX8_paste wsX6_become := goodIn_r _ [22, 23, 24, 25, 26, 27, 28, 29, 30, 31, 32, 33, 34, 35, 36, 37, 38, 39, 40, 41, 42, 43, 44, 45, 46, 47, 48, 49, 136, 137, 138, 139, 140, 141, 142, 143, 144, 145, 146, 149, 150, 151, 152, 153, 154] (by decide +kernel) (by decide +kernel)
set_option maxRecDepth 20000 in
theorem gX8_paste_X6_become : GoodIn wsX8_paste (wsV RX8 127 RX6 yX6_become wsX6_become) := goodIn_app (goodIn_of _ (by decide +kernel)) ggX8_paste_X6_become
set_option maxRecDepth 20000 in
theorem ggX8_paste_X8_isSafeByPasting : GoodIn wsX8_paste wsX8_isSafeByPasting := goodIn_r _ [53, 5, 1, 7, 3, 54, 6, 55, 56, 57, 58, 59, 60, 61, 62, 63, 64, 21, 65, 23, 31, 26, 66, 67, 68, 69, 70, 71, 72, 73, 34, 35, 74, 75, 76, 77, 24, 78, 79, 80, 81, 36, 82, 83, 84, 85, 33, 86, 87, 88, 89, 90, 91, 32, 92, 93, 94, 95, 96, 97, 98, 99, 100, 101, 102, 103, 104, 105, 106, 107, 108, 109, 110, 111, 124, 125, 126, 127, 128, 129, 130, 131, 132, 133, 134, 135, 136, 137, 138, 139, 140, 141, 142, 143, 144, 145, 146, 147, 148] (by decide +kernel) (by decide +kernel)
set_option maxRecDepth 20000 in
theorem gX8_paste_X8_isSafeByPasting : GoodIn wsX8_paste (wsV RX8 257 RX8 yX8_isSafeByPasting wsX8_isSafeByPasting) := goodIn_app (goodIn_of _ (by decide +kernel)) ggX8_paste_X8_isSafeByPasting
set_option maxRecDepth 20000 in
theorem ggX8_paste_X4_fill : GoodIn wsX8_paste wsX4_fill := goodIn_r _ [116, 117, 118, 28, 29, 30, 119, 120, 121, 115, 122, 123, 155, 156] (by decide +kernel) (by decide +kernel)
set_option maxRecDepth 20000 in
theorem gX8_paste_X4_fill : GoodIn wsX8_paste (wsV RX8 250 RX4 yX4_fill wsX4_fill) := goodIn_app (goodIn_of _ (by decide +kernel)) ggX8_paste_X4_fill
theorem dX8_paste_0 : decode cX8_paste 0 = .ok (.iload_n 1, 1) := by decide +kernel
theorem dX8_paste_1 : decode cX8_paste 1 = .ok (.ifCond .lt 10, 3) := by decide +kernel
theorem dX8_paste_4 : decode cX8_paste 4 = .ok (.iload_n 2, 1) := by decide +kernel
theorem dX8_paste_5 : decode cX8_paste 5 = .ok (.invokestatic 66, 3) := by decide +kernel
theorem dX8_paste_8 : decode cX8_paste 8 = .ok (.ifCond .ne 5, 3) := by decide +kernel
theorem dX8_paste_11 : decode cX8_paste 11 = .ok (.iconst (-1), 1) := by decide +kernel
theorem dX8_paste_12 : decode cX8_paste 12 = .ok (.ireturn, 1) := by decide +kernel
theorem dX8_paste_13 : decode cX8_paste 13 = .ok (.iload_n 1, 1) := by decide +kernel
theorem dX8_paste_14 : decode cX8_paste 14 = .ok (.aload_n 0, 1) := by decide +kernel
theorem dX8_paste_15 : decode cX8_paste 15 = .ok (.getfield 24, 3) := by decide +kernel
theorem dX8_paste_18 : decode cX8_paste 18 = .ok (.getfield 202, 3) := by decide +kernel
theorem dX8_paste_21 : decode cX8_paste 21 = .ok (.if_icmp .lt 9, 3) := by decide +kernel
theorem dX8_paste_24 : decode cX8_paste 24 = .ok (.aload_n 0, 1) := by decide +kernel
theorem dX8_paste_25 : decode cX8_paste 25 = .ok (.iconst 2, 1) := by decide +kernel
theorem dX8_paste_26 : decode cX8_paste 26 = .ok (.invokevirtual 70, 3) := by decide +kernel
theorem dX8_paste_29 : decode cX8_paste 29 = .ok (.ireturn, 1) := by decide +kernel
theorem dX8_paste_30 : decode cX8_paste 30 = .ok (.aload_n 0, 1) := by decide +kernel
theorem dX8_paste_31 : decode cX8_paste 31 = .ok (.getfield 28, 3) := by decide +kernel
theorem dX8_paste_34 : decode cX8_paste 34 = .ok (.aload_n 0, 1) := by decide +kernel
theorem dX8_paste_35 : decode cX8_paste 35 = .ok (.getfield 24, 3) := by decide +kernel
theorem dX8_paste_38 : decode cX8_paste 38 = .ok (.invokevirtual 127, 3) := by decide +kernel
theorem dX8_paste_41 : decode cX8_paste 41 = .ok (.iconst 0, 1) := by decide +kernel
theorem dX8_paste_42 : decode cX8_paste 42 = .ok (.istore_n 3, 1) := by decide +kernel
theorem dX8_paste_43 : decode cX8_paste 43 = .ok (.iload_n 3, 1) := by decide +kernel
theorem dX8_paste_44 : decode cX8_paste 44 = .ok (.bipush 6, 2) := by decide +kernel
theorem dX8_paste_46 : decode cX8_paste 46 = .ok (.if_icmp .gt 43, 3) := by decide +kernel
theorem dX8_paste_49 : decode cX8_paste 49 = .ok (.aload_n 0, 1) := by decide +kernel
theorem dX8_paste_50 : decode cX8_paste 50 = .ok (.iload_n 1, 1) := by decide +kernel
theorem dX8_paste_51 : decode cX8_paste 51 = .ok (.iload_n 3, 1) := by decide +kernel
theorem dX8_paste_52 : decode cX8_paste 52 = .ok (.invokevirtual 257, 3) := by decide +kernel
theorem dX8_paste_55 : decode cX8_paste 55 = .ok (.ifCond .eq 28, 3) := by decide +kernel
theorem dX8_paste_58 : decode cX8_paste 58 = .ok (.aload_n 0, 1) := by decide +kernel
theorem dX8_paste_59 : decode cX8_paste 59 = .ok (.getfield 11, 3) := by decide +kernel
theorem dX8_paste_62 : decode cX8_paste 62 = .ok (.iload_n 2, 1) := by decide +kernel
theorem dX8_paste_63 : decode cX8_paste 63 = .ok (.aaload, 1) := by decide +kernel
theorem dX8_paste_64 : decode cX8_paste 64 = .ok (.aload_n 0, 1) := by decide +kernel
theorem dX8_paste_65 : decode cX8_paste 65 = .ok (.getfield 56, 3) := by decide +kernel
theorem dX8_paste_68 : decode cX8_paste 68 = .ok (.getfield 260, 3) := by decide +kernel
theorem dX8_paste_71 : decode cX8_paste 71 = .ok (.aload_n 0, 1) := by decide +kernel
theorem dX8_paste_72 : decode cX8_paste 72 = .ok (.getfield 24, 3) := by decide +kernel
theorem dX8_paste_75 : decode cX8_paste 75 = .ok (.getfield 165, 3) := by decide +kernel
theorem dX8_paste_78 : decode cX8_paste 78 = .ok (.invokevirtual 250, 3) := by decide +kernel
theorem dX8_paste_81 : decode cX8_paste 81 = .ok (.iload_n 3, 1) := by decide +kernel
theorem dX8_paste_82 : decode cX8_paste 82 = .ok (.ireturn, 1) := by decide +kernel
theorem dX8_paste_83 : decode cX8_paste 83 = .ok (.iinc 3 1, 3) := by decide +kernel
theorem dX8_paste_86 : decode cX8_paste 86 = .ok (.goto (-43), 3) := by decide +kernel
theorem dX8_paste_89 : decode cX8_paste 89 = .ok (.bipush (-9), 2) := by decide +kernel
theorem dX8_paste_91 : decode cX8_paste 91 = .ok (.ireturn, 1) := by decide +kernel
set_option maxRecDepth 20000 in
theorem ggX8_tearOff_X8_areTwo : GoodIn wsX8_tearOff wsX8_areTwo := goodIn_r _ [18, 19, 20, 21, 17, 22, 2, 23, 36, 37, 38, 39, 40, 41, 42, 43, 44, 45, 46, 47, 48, 49, 50, 51, 52, 53, 54, 55, 56, 57, 58] (by decide +kernel) (by decide +kernel)
set_option maxRecDepth 20000 in
theorem gX8_tearOff_X8_areTwo : GoodIn wsX8_tearOff (wsV RX8 180 RX8 yX8_areTwo wsX8_areTwo) := goodIn_app (goodIn_of _ (by decide +kernel)) ggX8_tearOff_X8_areTwo
set_option maxRecDepth 20000 in
theorem ggX8_tearOff_X6_comesTo : GoodIn wsX8_tearOff wsX6_comesTo := goodIn_r _ [28, 29, 30, 31, 32, 33, 34, 8, 35, 48, 49, 50, 51, 52, 53, 54, 55, 56, 57, 58] (by decide +kernel) (by decide +kernel)
set_option maxRecDepth 20000 in
theorem gX8_tearOff_X6_comesTo : GoodIn wsX8_tearOff (wsV RX8 183 RX6 yX6_comesTo wsX6_comesTo) := goodIn_app (goodIn_of _ (by decide +kernel)) ggX8_tearOff_X6_comesTo
theorem dX8_tearOff_0 : decode cX8_tearOff 0 = .ok (.aload_n 0, 1) := by decide +kernel
theorem dX8_tearOff_1 : decode cX8_tearOff 1 = .ok (.iload_n 1, 1) := by decide +kernel
theorem dX8_tearOff_2 : decode cX8_tearOff 2 = .ok (.iload_n 2, 1) := by decide +kernel
theorem dX8_tearOff_3 : decode cX8_tearOff 3 = .ok (.invokevirtual 180, 3) := by decide +kernel
theorem dX8_tearOff_6 : decode cX8_tearOff 6 = .ok (.ifCond .ne 5, 3) := by decide +kernel
theorem dX8_tearOff_9 : decode cX8_tearOff 9 = .ok (.iconst (-1), 1) := by decide +kernel
theorem dX8_tearOff_10 : decode cX8_tearOff 10 = .ok (.ireturn, 1) := by decide +kernel
theorem dX8_tearOff_11 : decode cX8_tearOff 11 = .ok (.getstatic 263, 3) := by decide +kernel
theorem dX8_tearOff_14 : decode cX8_tearOff 14 = .ok (.aload_n 0, 1) := by decide +kernel
theorem dX8_tearOff_15 : decode cX8_tearOff 15 = .ok (.getfield 24, 3) := by decide +kernel
theorem dX8_tearOff_18 : decode cX8_tearOff 18 = .ok (.getfield 142, 3) := by decide +kernel
theorem dX8_tearOff_21 : decode cX8_tearOff 21 = .ok (.iload_n 1, 1) := by decide +kernel
theorem dX8_tearOff_22 : decode cX8_tearOff 22 = .ok (.iaload, 1) := by decide +kernel
theorem dX8_tearOff_23 : decode cX8_tearOff 23 = .ok (.iaload, 1) := by decide +kernel
theorem dX8_tearOff_24 : decode cX8_tearOff 24 = .ok (.aload_n 0, 1) := by decide +kernel
theorem dX8_tearOff_25 : decode cX8_tearOff 25 = .ok (.getfield 24, 3) := by decide +kernel
theorem dX8_tearOff_28 : decode cX8_tearOff 28 = .ok (.aload_n 0, 1) := by decide +kernel
theorem dX8_tearOff_29 : decode cX8_tearOff 29 = .ok (.getfield 24, 3) := by decide +kernel
theorem dX8_tearOff_32 : decode cX8_tearOff 32 = .ok (.getfield 177, 3) := by decide +kernel
theorem dX8_tearOff_35 : decode cX8_tearOff 35 = .ok (.iload_n 1, 1) := by decide +kernel
theorem dX8_tearOff_36 : decode cX8_tearOff 36 = .ok (.iaload, 1) := by decide +kernel
theorem dX8_tearOff_37 : decode cX8_tearOff 37 = .ok (.iload_n 2, 1) := by decide +kernel
theorem dX8_tearOff_38 : decode cX8_tearOff 38 = .ok (.invokevirtual 183, 3) := by decide +kernel
theorem dX8_tearOff_41 : decode cX8_tearOff 41 = .ok (.isub, 1) := by decide +kernel
theorem dX8_tearOff_42 : decode cX8_tearOff 42 = .ok (.istore_n 3, 1) := by decide +kernel
theorem dX8_tearOff_43 : decode cX8_tearOff 43 = .ok (.iload_n 3, 1) := by decide +kernel
theorem dX8_tearOff_44 : decode cX8_tearOff 44 = .ok (.ifCond .gt 11, 3) := by decide +kernel
theorem dX8_tearOff_47 : decode cX8_tearOff 47 = .ok (.aload_n 0, 1) := by decide +kernel
theorem dX8_tearOff_48 : decode cX8_tearOff 48 = .ok (.bipush (-9), 2) := by decide +kernel
theorem dX8_tearOff_50 : decode cX8_tearOff 50 = .ok (.putfield 92, 3) := by decide +kernel
theorem dX8_tearOff_53 : decode cX8_tearOff 53 = .ok (.iconst 0, 1) := by decide +kernel
theorem dX8_tearOff_54 : decode cX8_tearOff 54 = .ok (.ireturn, 1) := by decide +kernel
theorem dX8_tearOff_55 : decode cX8_tearOff 55 = .ok (.aload_n 0, 1) := by decide +kernel
theorem dX8_tearOff_56 : decode cX8_tearOff 56 = .ok (.getfield 24, 3) := by decide +kernel
theorem dX8_tearOff_59 : decode cX8_tearOff 59 = .ok (.getfield 177, 3) := by decide +kernel
theorem dX8_tearOff_62 : decode cX8_tearOff 62 = .ok (.iload_n 1, 1) := by decide +kernel
theorem dX8_tearOff_63 : decode cX8_tearOff 63 = .ok (.iaload, 1) := by decide +kernel
theorem dX8_tearOff_64 : decode cX8_tearOff 64 = .ok (.aload_n 0, 1) := by decide +kernel
theorem dX8_tearOff_65 : decode cX8_tearOff 65 = .ok (.getfield 24, 3) := by decide +kernel
theorem dX8_tearOff_68 : decode cX8_tearOff 68 = .ok (.getfield 177, 3) := by decide +kernel
theorem dX8_tearOff_71 : decode cX8_tearOff 71 = .ok (.iload_n 2, 1) := by decide +kernel
theorem dX8_tearOff_72 : decode cX8_tearOff 72 = .ok (.iaload, 1) := by decide +kernel
theorem dX8_tearOff_73 : decode cX8_tearOff 73 = .ok (.invokestatic 266, 3) := by decide +kernel
theorem dX8_tearOff_76 : decode cX8_tearOff 76 = .ok (.istore 4, 2) := by decide +kernel
theorem dX8_tearOff_78 : decode cX8_tearOff 78 = .ok (.aload_n 0, 1) := by decide +kernel
theorem dX8_tearOff_79 : decode cX8_tearOff 79 = .ok (.getfield 24, 3) := by decide +kernel
theorem dX8_tearOff_82 : decode cX8_tearOff 82 = .ok (.getfield 177, 3) := by decide +kernel
theorem dX8_tearOff_85 : decode cX8_tearOff 85 = .ok (.iload_n 1, 1) := by decide +kernel
theorem dX8_tearOff_86 : decode cX8_tearOff 86 = .ok (.iaload, 1) := by decide +kernel
theorem dX8_tearOff_87 : decode cX8_tearOff 87 = .ok (.aload_n 0, 1) := by decide +kernel
theorem dX8_tearOff_88 : decode cX8_tearOff 88 = .ok (.getfield 24, 3) := by decide +kernel
theorem dX8_tearOff_91 : decode cX8_tearOff 91 = .ok (.getfield 177, 3) := by decide +kernel
theorem dX8_tearOff_94 : decode cX8_tearOff 94 = .ok (.iload_n 2, 1) := by decide +kernel
theorem dX8_tearOff_95 : decode cX8_tearOff 95 = .ok (.iaload, 1) := by decide +kernel
theorem dX8_tearOff_96 : decode cX8_tearOff 96 = .ok (.invokestatic 271, 3) := by decide +kernel
theorem dX8_tearOff_99 : decode cX8_tearOff 99 = .ok (.istore 5, 2) := by decide +kernel
theorem dX8_tearOff_101 : decode cX8_tearOff 101 = .ok (.iload 4, 2) := by decide +kernel
theorem dX8_tearOff_103 : decode cX8_tearOff 103 = .ok (.istore 6, 2) := by decide +kernel
theorem dX8_tearOff_105 : decode cX8_tearOff 105 = .ok (.iload 6, 2) := by decide +kernel
theorem dX8_tearOff_107 : decode cX8_tearOff 107 = .ok (.iload 5, 2) := by decide +kernel
theorem dX8_tearOff_109 : decode cX8_tearOff 109 = .ok (.if_icmp .ge 31, 3) := by decide +kernel
theorem dX8_tearOff_112 : decode cX8_tearOff 112 = .ok (.aload_n 0, 1) := by decide +kernel
theorem dX8_tearOff_113 : decode cX8_tearOff 113 = .ok (.getfield 24, 3) := by decide +kernel
theorem dX8_tearOff_116 : decode cX8_tearOff 116 = .ok (.getfield 168, 3) := by decide +kernel
theorem dX8_tearOff_119 : decode cX8_tearOff 119 = .ok (.iload 6, 2) := by decide +kernel
theorem dX8_tearOff_121 : decode cX8_tearOff 121 = .ok (.iaload, 1) := by decide +kernel
theorem dX8_tearOff_122 : decode cX8_tearOff 122 = .ok (.iload_n 3, 1) := by decide +kernel
theorem dX8_tearOff_123 : decode cX8_tearOff 123 = .ok (.if_icmp .lt 11, 3) := by decide +kernel
theorem dX8_tearOff_126 : decode cX8_tearOff 126 = .ok (.aload_n 0, 1) := by decide +kernel
theorem dX8_tearOff_127 : decode cX8_tearOff 127 = .ok (.iload 6, 2) := by decide +kernel
theorem dX8_tearOff_129 : decode cX8_tearOff 129 = .ok (.putfield 92, 3) := by decide +kernel
theorem dX8_tearOff_132 : decode cX8_tearOff 132 = .ok (.iload_n 3, 1) := by decide +kernel
theorem dX8_tearOff_133 : decode cX8_tearOff 133 = .ok (.ireturn, 1) := by decide +kernel
theorem dX8_tearOff_134 : decode cX8_tearOff 134 = .ok (.iinc 6 1, 3) := by decide +kernel
theorem dX8_tearOff_137 : decode cX8_tearOff 137 = .ok (.goto (-32), 3) := by decide +kernel
theorem dX8_tearOff_140 : decode cX8_tearOff 140 = .ok (.bipush (-9), 2) := by decide +kernel
theorem dX8_tearOff_142 : decode cX8_tearOff 142 = .ok (.ireturn, 1) := by decide +kernel
set_option maxRecDepth 20000 in
theorem ggX8_comes_X8_isOne : GoodIn wsX8_comes wsX8_isOne := goodIn_r _ [7, 1, 8, 29, 30, 31, 32, 33, 34, 35, 36, 37, 38, 39, 40, 41, 42, 43, 44, 45, 46, 47, 48, 49, 50, 51] (by decide +kernel) (by decide +kernel)
set_option maxRecDepth 20000 in
theorem gX8_comes_X8_isOne : GoodIn wsX8_comes (wsV RX8 134 RX8 yX8_isOne wsX8_isOne) := goodIn_app (goodIn_of _ (by decide +kernel)) ggX8_comes_X8_isOne
set_option maxRecDepth 20000 in
theorem ggX8_comes_X8_isThing : GoodIn wsX8_comes wsX8_isThing := goodIn_r _ [11] (by decide +kernel) (by decide +kernel)
set_option maxRecDepth 20000 in
theorem gX8_comes_X8_isThing : GoodIn wsX8_comes (va_wsS RX8 278 yX8_isThing wsX8_isThing) := goodIn_app (goodIn_of _ (by decide +kernel)) ggX8_comes_X8_isThing
set_option maxRecDepth 20000 in
theorem ggX8_comes_X1_learn : GoodIn wsX8_comes wsX1_learn := goodIn_r _ [16, 17, 52, 53, 54, 55, 56, 57] (by decide +kernel) (by decide +kernel)
set_option maxRecDepth 20000 in
theorem gX8_comes_X1_learn : GoodIn wsX8_comes (wsV RX8 284 RX1 yX1_learn wsX1_learn) := goodIn_app (goodIn_of _ (by decide +kernel)) ggX8_comes_X1_learn
