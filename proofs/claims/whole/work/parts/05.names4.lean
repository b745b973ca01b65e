theorem dX8_nights_20 : decode cX8_nights 20 = .ok (.iload_n 3, 1) := by decide +kernel
theorem dX8_nights_21 : decode cX8_nights 21 = .ok (.ldc_w 314, 3) := by decide +kernel
theorem dX8_nights_24 : decode cX8_nights 24 = .ok (.if_icmp .lt 5, 3) := by decide +kernel
theorem dX8_nights_27 : decode cX8_nights 27 = .ok (.iconst (-1), 1) := by decide +kernel
theorem dX8_nights_28 : decode cX8_nights 28 = .ok (.ireturn, 1) := by decide +kernel
theorem dX8_nights_29 : decode cX8_nights 29 = .ok (.iload_n 1, 1) := by decide +kernel
theorem dX8_nights_30 : decode cX8_nights 30 = .ok (.aload_n 0, 1) := by decide +kernel
theorem dX8_nights_31 : decode cX8_nights 31 = .ok (.getfield 24, 3) := by decide +kernel
theorem dX8_nights_34 : decode cX8_nights 34 = .ok (.getfield 202, 3) := by decide +kernel
theorem dX8_nights_37 : decode cX8_nights 37 = .ok (.if_icmp .ge 13, 3) := by decide +kernel
theorem dX8_nights_40 : decode cX8_nights 40 = .ok (.aload_n 0, 1) := by decide +kernel
theorem dX8_nights_41 : decode cX8_nights 41 = .ok (.getfield 24, 3) := by decide +kernel
theorem dX8_nights_44 : decode cX8_nights 44 = .ok (.getfield 131, 3) := by decide +kernel
theorem dX8_nights_47 : decode cX8_nights 47 = .ok (.ifCond .ne 9, 3) := by decide +kernel
theorem dX8_nights_50 : decode cX8_nights 50 = .ok (.aload_n 0, 1) := by decide +kernel
theorem dX8_nights_51 : decode cX8_nights 51 = .ok (.iconst 2, 1) := by decide +kernel
theorem dX8_nights_52 : decode cX8_nights 52 = .ok (.invokevirtual 70, 3) := by decide +kernel
theorem dX8_nights_55 : decode cX8_nights 55 = .ok (.ireturn, 1) := by decide +kernel
theorem dX8_nights_56 : decode cX8_nights 56 = .ok (.iload_n 3, 1) := by decide +kernel
theorem dX8_nights_57 : decode cX8_nights 57 = .ok (.i2l, 1) := by decide +kernel
theorem dX8_nights_58 : decode cX8_nights 58 = .ok (.lstore 4, 2) := by decide +kernel
theorem dX8_nights_60 : decode cX8_nights 60 = .ok (.iconst 0, 1) := by decide +kernel
theorem dX8_nights_61 : decode cX8_nights 61 = .ok (.istore 6, 2) := by decide +kernel
theorem dX8_nights_63 : decode cX8_nights 63 = .ok (.bipush (-9), 2) := by decide +kernel
theorem dX8_nights_65 : decode cX8_nights 65 = .ok (.istore 7, 2) := by decide +kernel
theorem dX8_nights_67 : decode cX8_nights 67 = .ok (.iconst 0, 1) := by decide +kernel
theorem dX8_nights_68 : decode cX8_nights 68 = .ok (.istore 8, 2) := by decide +kernel
theorem dX8_nights_70 : decode cX8_nights 70 = .ok (.iload 8, 2) := by decide +kernel
theorem dX8_nights_72 : decode cX8_nights 72 = .ok (.iload_n 2, 1) := by decide +kernel
theorem dX8_nights_73 : decode cX8_nights 73 = .ok (.if_icmp .ge 57, 3) := by decide +kernel
theorem dX8_nights_76 : decode cX8_nights 76 = .ok (.lload 4, 2) := by decide +kernel
theorem dX8_nights_78 : decode cX8_nights 78 = .ok (.ldc2_w 315, 3) := by decide +kernel
theorem dX8_nights_81 : decode cX8_nights 81 = .ok (.lmul, 1) := by decide +kernel
theorem dX8_nights_82 : decode cX8_nights 82 = .ok (.ldc2_w 317, 3) := by decide +kernel
theorem dX8_nights_85 : decode cX8_nights 85 = .ok (.lrem, 1) := by decide +kernel
theorem dX8_nights_86 : decode cX8_nights 86 = .ok (.lstore 4, 2) := by decide +kernel
theorem dX8_nights_88 : decode cX8_nights 88 = .ok (.lload 4, 2) := by decide +kernel
theorem dX8_nights_90 : decode cX8_nights 90 = .ok (.aload_n 0, 1) := by decide +kernel
theorem dX8_nights_91 : decode cX8_nights 91 = .ok (.getfield 24, 3) := by decide +kernel
theorem dX8_nights_94 : decode cX8_nights 94 = .ok (.getfield 131, 3) := by decide +kernel
theorem dX8_nights_97 : decode cX8_nights 97 = .ok (.i2l, 1) := by decide +kernel
theorem dX8_nights_98 : decode cX8_nights 98 = .ok (.lrem, 1) := by decide +kernel
theorem dX8_nights_99 : decode cX8_nights 99 = .ok (.l2i, 1) := by decide +kernel
theorem dX8_nights_100 : decode cX8_nights 100 = .ok (.istore 9, 2) := by decide +kernel
theorem dX8_nights_102 : decode cX8_nights 102 = .ok (.aload_n 0, 1) := by decide +kernel
theorem dX8_nights_103 : decode cX8_nights 103 = .ok (.getfield 24, 3) := by decide +kernel
theorem dX8_nights_106 : decode cX8_nights 106 = .ok (.iload_n 1, 1) := by decide +kernel
theorem dX8_nights_107 : decode cX8_nights 107 = .ok (.iconst 1, 1) := by decide +kernel
theorem dX8_nights_108 : decode cX8_nights 108 = .ok (.iload 9, 2) := by decide +kernel
theorem dX8_nights_110 : decode cX8_nights 110 = .ok (.ishl, 1) := by decide +kernel
theorem dX8_nights_111 : decode cX8_nights 111 = .ok (.invokevirtual 218, 3) := by decide +kernel
theorem dX8_nights_114 : decode cX8_nights 114 = .ok (.ifCond .eq 10, 3) := by decide +kernel
theorem dX8_nights_117 : decode cX8_nights 117 = .ok (.iinc 6 1, 3) := by decide +kernel
theorem dX8_nights_120 : decode cX8_nights 120 = .ok (.iload 9, 2) := by decide +kernel
theorem dX8_nights_122 : decode cX8_nights 122 = .ok (.istore 7, 2) := by decide +kernel
theorem dX8_nights_124 : decode cX8_nights 124 = .ok (.iinc 8 1, 3) := by decide +kernel
theorem dX8_nights_127 : decode cX8_nights 127 = .ok (.goto (-57), 3) := by decide +kernel
theorem dX8_nights_130 : decode cX8_nights 130 = .ok (.aload_n 0, 1) := by decide +kernel
theorem dX8_nights_131 : decode cX8_nights 131 = .ok (.iload 7, 2) := by decide +kernel
theorem dX8_nights_133 : decode cX8_nights 133 = .ok (.putfield 92, 3) := by decide +kernel
theorem dX8_nights_136 : decode cX8_nights 136 = .ok (.iload 6, 2) := by decide +kernel
theorem dX8_nights_138 : decode cX8_nights 138 = .ok (.ireturn, 1) := by decide +kernel
theorem dX8_asked_0 : decode cX8_asked 0 = .ok (.aload_n 0, 1) := by decide +kernel
theorem dX8_asked_1 : decode cX8_asked 1 = .ok (.getfield 92, 3) := by decide +kernel
theorem dX8_asked_4 : decode cX8_asked 4 = .ok (.ireturn, 1) := by decide +kernel
set_option maxRecDepth 20000 in
theorem ggX8_upper_X6_heardPairs : GoodIn wsX8_upper wsX6_heardPairs := goodIn_r _ [6, 7, 8, 9, 10, 5, 11, 12, 13, 14, 15, 16, 17, 18, 19, 20, 21, 22, 23, 24, 25, 26, 27, 28, 29, 30, 31, 32, 33, 34, 35, 36, 37, 38, 39, 40, 41, 42, 43, 44, 45, 46, 47, 48, 49, 50, 51, 73, 74, 75, 76, 77, 78, 79, 80, 81, 82, 83] (by decide +kernel) (by decide +kernel)
set_option maxRecDepth 20000 in
theorem gX8_upper_X6_heardPairs : GoodIn wsX8_upper (wsV RX8 319 RX6 yX6_heardPairs wsX6_heardPairs) := goodIn_app (goodIn_of _ (by decide +kernel)) ggX8_upper_X6_heardPairs
set_option maxRecDepth 20000 in
theorem ggX8_upper_X6_pairs : GoodIn wsX8_upper wsX6_pairs := goodIn_r _ [55, 7, 23, 24, 25, 26, 73, 74, 75, 76, 77, 78, 79, 80, 81, 82, 83] (by decide +kernel) (by decide +kernel)
set_option maxRecDepth 20000 in
theorem gX8_upper_X6_pairs : GoodIn wsX8_upper (wsV RX8 322 RX6 yX6_pairs wsX6_pairs) := goodIn_app (goodIn_of _ (by decide +kernel)) ggX8_upper_X6_pairs
set_option maxRecDepth 20000 in
theorem ggX8_upper_X8_commonDivisor : GoodIn wsX8_upper wsX8_commonDivisor := goodIn_r _ [59, 60, 24, 25, 26] (by decide +kernel) (by decide +kernel)
set_option maxRecDepth 20000 in
theorem gX8_upper_X8_commonDivisor : GoodIn wsX8_upper (va_wsS RX8 325 yX8_commonDivisor wsX8_commonDivisor) := goodIn_app (goodIn_of _ (by decide +kernel)) ggX8_upper_X8_commonDivisor
theorem dX8_upper_0 : decode cX8_upper 0 = .ok (.aload_n 0, 1) := by decide +kernel
theorem dX8_upper_1 : decode cX8_upper 1 = .ok (.getfield 24, 3) := by decide +kernel
theorem dX8_upper_4 : decode cX8_upper 4 = .ok (.invokevirtual 319, 3) := by decide +kernel
theorem dX8_upper_7 : decode cX8_upper 7 = .ok (.istore_n 1, 1) := by decide +kernel
theorem dX8_upper_8 : decode cX8_upper 8 = .ok (.iload_n 1, 1) := by decide +kernel
theorem dX8_upper_9 : decode cX8_upper 9 = .ok (.iload_n 1, 1) := by decide +kernel
theorem dX8_upper_10 : decode cX8_upper 10 = .ok (.aload_n 0, 1) := by decide +kernel
theorem dX8_upper_11 : decode cX8_upper 11 = .ok (.getfield 24, 3) := by decide +kernel
theorem dX8_upper_14 : decode cX8_upper 14 = .ok (.invokevirtual 322, 3) := by decide +kernel
theorem dX8_upper_17 : decode cX8_upper 17 = .ok (.invokestatic 325, 3) := by decide +kernel
theorem dX8_upper_20 : decode cX8_upper 20 = .ok (.idiv, 1) := by decide +kernel
theorem dX8_upper_21 : decode cX8_upper 21 = .ok (.i2l, 1) := by decide +kernel
theorem dX8_upper_22 : decode cX8_upper 22 = .ok (.lreturn, 1) := by decide +kernel
set_option maxRecDepth 20000 in
theorem ggX8_lower_X6_pairs : GoodIn wsX8_lower wsX6_pairs := goodIn_r _ [6, 7, 8, 9, 10, 11, 73, 74, 75, 76, 77, 78, 79, 80, 81, 82, 83] (by decide +kernel) (by decide +kernel)
set_option maxRecDepth 20000 in
theorem gX8_lower_X6_pairs : GoodIn wsX8_lower (wsV RX8 322 RX6 yX6_pairs wsX6_pairs) := goodIn_app (goodIn_of _ (by decide +kernel)) ggX8_lower_X6_pairs
set_option maxRecDepth 20000 in
theorem ggX8_lower_X6_heardPairs : GoodIn wsX8_lower wsX6_heardPairs := goodIn_r _ [15, 7, 16, 17, 18, 5, 19, 20, 21, 22, 23, 24, 25, 26, 27, 28, 29, 30, 8, 9, 10, 11, 31, 32, 33, 34, 35, 36, 37, 38, 39, 40, 41, 42, 43, 44, 45, 46, 47, 48, 49, 50, 51, 52, 53, 54, 55, 73, 74, 75, 76, 77, 78, 79, 80, 81, 82, 83] (by decide +kernel) (by decide +kernel)
set_option maxRecDepth 20000 in
theorem gX8_lower_X6_heardPairs : GoodIn wsX8_lower (wsV RX8 319 RX6 yX6_heardPairs wsX6_heardPairs) := goodIn_app (goodIn_of _ (by decide +kernel)) ggX8_lower_X6_heardPairs
set_option maxRecDepth 20000 in
theorem ggX8_lower_X8_commonDivisor : GoodIn wsX8_lower wsX8_commonDivisor := goodIn_r _ [59, 60, 9, 10, 11] (by decide +kernel) (by decide +kernel)
set_option maxRecDepth 20000 in
theorem gX8_lower_X8_commonDivisor : GoodIn wsX8_lower (va_wsS RX8 325 yX8_commonDivisor wsX8_commonDivisor) := goodIn_app (goodIn_of _ (by decide +kernel)) ggX8_lower_X8_commonDivisor
theorem dX8_lower_0 : decode cX8_lower 0 = .ok (.aload_n 0, 1) := by decide +kernel
theorem dX8_lower_1 : decode cX8_lower 1 = .ok (.getfield 24, 3) := by decide +kernel
theorem dX8_lower_4 : decode cX8_lower 4 = .ok (.invokevirtual 322, 3) := by decide +kernel
theorem dX8_lower_7 : decode cX8_lower 7 = .ok (.istore_n 1, 1) := by decide +kernel
theorem dX8_lower_8 : decode cX8_lower 8 = .ok (.iload_n 1, 1) := by decide +kernel
theorem dX8_lower_9 : decode cX8_lower 9 = .ok (.ifCond .ne 7, 3) := by decide +kernel
theorem dX8_lower_12 : decode cX8_lower 12 = .ok (.lconst 1, 1) := by decide +kernel
theorem dX8_lower_13 : decode cX8_lower 13 = .ok (.goto 17, 3) := by decide +kernel
theorem dX8_lower_16 : decode cX8_lower 16 = .ok (.iload_n 1, 1) := by decide +kernel
theorem dX8_lower_17 : decode cX8_lower 17 = .ok (.aload_n 0, 1) := by decide +kernel
theorem dX8_lower_18 : decode cX8_lower 18 = .ok (.getfield 24, 3) := by decide +kernel
theorem dX8_lower_21 : decode cX8_lower 21 = .ok (.invokevirtual 319, 3) := by decide +kernel
theorem dX8_lower_24 : decode cX8_lower 24 = .ok (.iload_n 1, 1) := by decide +kernel
theorem dX8_lower_25 : decode cX8_lower 25 = .ok (.invokestatic 325, 3) := by decide +kernel
theorem dX8_lower_28 : decode cX8_lower 28 = .ok (.idiv, 1) := by decide +kernel
theorem dX8_lower_29 : decode cX8_lower 29 = .ok (.i2l, 1) := by decide +kernel
theorem dX8_lower_30 : decode cX8_lower 30 = .ok (.lreturn, 1) := by decide +kernel
set_option maxRecDepth 20000 in
theorem ggX8_count_X6_howManyOf : GoodIn wsX8_count wsX6_howManyOf := goodIn_r _ [11, 12, 13, 14, 15, 16, 17, 18, 59, 60, 61, 62, 63, 64, 65, 66, 67, 68, 69] (by decide +kernel) (by decide +kernel)
set_option maxRecDepth 20000 in
theorem gX8_count_X6_howManyOf : GoodIn wsX8_count (wsV RX8 328 RX6 yX6_howManyOf wsX6_howManyOf) := goodIn_app (goodIn_of _ (by decide +kernel)) ggX8_count_X6_howManyOf
set_option maxRecDepth 20000 in
theorem ggX8_count_X8_howManyRows : GoodIn wsX8_count wsX8_howManyRows := goodIn_r _ [23, 24, 25, 26, 27, 28, 29, 30, 47, 48, 49, 50, 51, 52, 53, 54, 55, 56, 57, 58, 76, 77] (by decide +kernel) (by decide +kernel)
set_option maxRecDepth 20000 in
theorem gX8_count_X8_howManyRows : GoodIn wsX8_count (wsV RX8 331 RX8 yX8_howManyRows wsX8_howManyRows) := goodIn_app (goodIn_of _ (by decide +kernel)) ggX8_count_X8_howManyRows
set_option maxRecDepth 20000 in
theorem ggX8_count_X8_howManyTexts : GoodIn wsX8_count wsX8_howManyTexts := goodIn_r _ [34, 35, 36, 37, 38, 39, 40, 41, 47, 48, 49, 50, 51, 52, 53, 54, 55, 56, 57, 58, 78, 79] (by decide +kernel) (by decide +kernel)
set_option maxRecDepth 20000 in
theorem gX8_count_X8_howManyTexts : GoodIn wsX8_count (wsV RX8 334 RX8 yX8_howManyTexts wsX8_howManyTexts) := goodIn_app (goodIn_of _ (by decide +kernel)) ggX8_count_X8_howManyTexts
set_option maxRecDepth 20000 in
theorem ggX8_count_X8_howManyKept : GoodIn wsX8_count wsX8_howManyKept := goodIn_r _ [45, 46, 47, 48, 49, 50, 51, 52, 53, 54, 55, 56, 57, 58] (by decide +kernel) (by decide +kernel)
set_option maxRecDepth 20000 in
theorem gX8_count_X8_howManyKept : GoodIn wsX8_count (wsV RX8 337 RX8 yX8_howManyKept wsX8_howManyKept) := goodIn_app (goodIn_of _ (by decide +kernel)) ggX8_count_X8_howManyKept
theorem dX8_count_0 : decode cX8_count 0 = .ok (.iload_n 1, 1) := by decide +kernel
theorem dX8_count_1 : decode cX8_count 1 = .ok (.tableswitch 119 0 8 #[51, 59, 67, 75, 86, 95, 104, 109, 114], 51) := by decide +kernel
theorem dX8_count_52 : decode cX8_count 52 = .ok (.aload_n 0, 1) := by decide +kernel
theorem dX8_count_53 : decode cX8_count 53 = .ok (.getfield 24, 3) := by decide +kernel
theorem dX8_count_56 : decode cX8_count 56 = .ok (.getfield 131, 3) := by decide +kernel
theorem dX8_count_59 : decode cX8_count 59 = .ok (.ireturn, 1) := by decide +kernel
theorem dX8_count_60 : decode cX8_count 60 = .ok (.aload_n 0, 1) := by decide +kernel
theorem dX8_count_61 : decode cX8_count 61 = .ok (.getfield 24, 3) := by decide +kernel
theorem dX8_count_64 : decode cX8_count 64 = .ok (.getfield 165, 3) := by decide +kernel
theorem dX8_count_67 : decode cX8_count 67 = .ok (.ireturn, 1) := by decide +kernel
theorem dX8_count_68 : decode cX8_count 68 = .ok (.aload_n 0, 1) := by decide +kernel
theorem dX8_count_69 : decode cX8_count 69 = .ok (.getfield 24, 3) := by decide +kernel
theorem dX8_count_72 : decode cX8_count 72 = .ok (.getfield 202, 3) := by decide +kernel
theorem dX8_count_75 : decode cX8_count 75 = .ok (.ireturn, 1) := by decide +kernel
theorem dX8_count_76 : decode cX8_count 76 = .ok (.aload_n 0, 1) := by decide +kernel
theorem dX8_count_77 : decode cX8_count 77 = .ok (.getfield 24, 3) := by decide +kernel
theorem dX8_count_80 : decode cX8_count 80 = .ok (.getfield 281, 3) := by decide +kernel
theorem dX8_count_83 : decode cX8_count 83 = .ok (.getfield 293, 3) := by decide +kernel
theorem dX8_count_86 : decode cX8_count 86 = .ok (.ireturn, 1) := by decide +kernel
theorem dX8_count_87 : decode cX8_count 87 = .ok (.aload_n 0, 1) := by decide +kernel
theorem dX8_count_88 : decode cX8_count 88 = .ok (.getfield 24, 3) := by decide +kernel
theorem dX8_count_91 : decode cX8_count 91 = .ok (.iconst 1, 1) := by decide +kernel
theorem dX8_count_92 : decode cX8_count 92 = .ok (.invokevirtual 328, 3) := by decide +kernel
theorem dX8_count_95 : decode cX8_count 95 = .ok (.ireturn, 1) := by decide +kernel
theorem dX8_count_96 : decode cX8_count 96 = .ok (.aload_n 0, 1) := by decide +kernel
theorem dX8_count_97 : decode cX8_count 97 = .ok (.getfield 24, 3) := by decide +kernel
theorem dX8_count_100 : decode cX8_count 100 = .ok (.iconst 2, 1) := by decide +kernel
theorem dX8_count_101 : decode cX8_count 101 = .ok (.invokevirtual 328, 3) := by decide +kernel
theorem dX8_count_104 : decode cX8_count 104 = .ok (.ireturn, 1) := by decide +kernel
theorem dX8_count_105 : decode cX8_count 105 = .ok (.aload_n 0, 1) := by decide +kernel
theorem dX8_count_106 : decode cX8_count 106 = .ok (.invokevirtual 331, 3) := by decide +kernel
theorem dX8_count_109 : decode cX8_count 109 = .ok (.ireturn, 1) := by decide +kernel
theorem dX8_count_110 : decode cX8_count 110 = .ok (.aload_n 0, 1) := by decide +kernel
theorem dX8_count_111 : decode cX8_count 111 = .ok (.invokevirtual 334, 3) := by decide +kernel
theorem dX8_count_114 : decode cX8_count 114 = .ok (.ireturn, 1) := by decide +kernel
theorem dX8_count_115 : decode cX8_count 115 = .ok (.aload_n 0, 1) := by decide +kernel
theorem dX8_count_116 : decode cX8_count 116 = .ok (.invokevirtual 337, 3) := by decide +kernel
theorem dX8_count_119 : decode cX8_count 119 = .ok (.ireturn, 1) := by decide +kernel
theorem dX8_count_120 : decode cX8_count 120 = .ok (.iconst (-1), 1) := by decide +kernel
theorem dX8_count_121 : decode cX8_count 121 = .ok (.ireturn, 1) := by decide +kernel
theorem dX8_finding_0 : decode cX8_finding 0 = .ok (.aload_n 0, 1) := by decide +kernel
theorem dX8_finding_1 : decode cX8_finding 1 = .ok (.getfield 340, 3) := by decide +kernel
theorem dX8_finding_4 : decode cX8_finding 4 = .ok (.ireturn, 1) := by decide +kernel
theorem dX8_findings_0 : decode cX8_findings 0 = .ok (.iload_n 1, 1) := by decide +kernel
theorem dX8_findings_1 : decode cX8_findings 1 = .ok (.iconst 1, 1) := by decide +kernel
theorem dX8_findings_2 : decode cX8_findings 2 = .ok (.if_icmp .lt 8, 3) := by decide +kernel
theorem dX8_findings_5 : decode cX8_findings 5 = .ok (.iload_n 1, 1) := by decide +kernel
theorem dX8_findings_6 : decode cX8_findings 6 = .ok (.iconst 5, 1) := by decide +kernel
theorem dX8_findings_7 : decode cX8_findings 7 = .ok (.if_icmp .le 5, 3) := by decide +kernel
theorem dX8_findings_10 : decode cX8_findings 10 = .ok (.iconst (-1), 1) := by decide +kernel
theorem dX8_findings_11 : decode cX8_findings 11 = .ok (.ireturn, 1) := by decide +kernel
theorem dX8_findings_12 : decode cX8_findings 12 = .ok (.aload_n 0, 1) := by decide +kernel
theorem dX8_findings_13 : decode cX8_findings 13 = .ok (.getfield 60, 3) := by decide +kernel
theorem dX8_findings_16 : decode cX8_findings 16 = .ok (.iload_n 1, 1) := by decide +kernel
theorem dX8_findings_17 : decode cX8_findings 17 = .ok (.iaload, 1) := by decide +kernel
theorem dX8_findings_18 : decode cX8_findings 18 = .ok (.ireturn, 1) := by decide +kernel
set_option maxRecDepth 20000 in
theorem ggX8_digest_X8_count : GoodIn wsX8_digest wsX8_count := goodIn_r _ [14, 3, 15, 16, 17, 6, 7, 18, 19, 20, 21, 22, 23, 24, 25, 26, 27, 28, 29, 30, 31, 32, 13, 33, 8, 34, 35, 36, 37, 38, 39, 40, 41, 42, 43, 9, 44, 45, 46, 47, 48, 49, 50, 51, 52, 53, 4, 107, 108, 109, 110, 111, 112, 113, 114, 115, 116, 117, 118, 119, 120, 121, 122, 123, 124, 125, 126, 127, 128, 129, 130, 131, 132, 133, 134, 135, 136, 137, 138, 139] (by decide +kernel) (by decide +kernel)
set_option maxRecDepth 20000 in
theorem gX8_digest_X8_count : GoodIn wsX8_digest (wsV RX8 347 RX8 yX8_count wsX8_count) := goodIn_app (goodIn_of _ (by decide +kernel)) ggX8_digest_X8_count
set_option maxRecDepth 20000 in
theorem ggX8_digest_X6_digestFrom : GoodIn wsX8_digest wsX6_digestFrom := goodIn_r _ [57, 58, 59, 60, 23, 61, 62, 63, 64, 65, 21, 66, 24, 67, 68, 69, 70, 71, 72, 73, 74, 75, 76, 77, 78, 79, 80, 81, 82, 83, 84, 85, 86, 87, 88, 89, 90, 91, 92, 93, 94, 119, 120, 121, 122, 123, 124, 125, 126, 127, 128, 129, 130, 131, 132, 133, 134, 135] (by decide +kernel) (by decide +kernel)
set_option maxRecDepth 20000 in
theorem gX8_digest_X6_digestFrom : GoodIn wsX8_digest (wsV RX8 350 RX6 yX6_digestFrom wsX6_digestFrom) := goodIn_app (goodIn_of _ (by decide +kernel)) ggX8_digest_X6_digestFrom
set_option maxRecDepth 20000 in
theorem ggX8_digest_X4_digestFrom : GoodIn wsX8_digest wsX4_digestFrom := goodIn_r _ [98, 99, 39, 100, 136, 137] (by decide +kernel) (by decide +kernel)
set_option maxRecDepth 20000 in
theorem gX8_digest_X4_digestFrom : GoodIn wsX8_digest (wsV RX8 354 RX4 yX4_digestFrom wsX4_digestFrom) := goodIn_app (goodIn_of _ (by decide +kernel)) ggX8_digest_X4_digestFrom
set_option maxRecDepth 20000 in
theorem ggX8_digest_X7_digestFrom : GoodIn wsX8_digest wsX7_digestFrom := goodIn_r _ [104, 105, 49, 106, 138, 139] (by decide +kernel) (by decide +kernel)
set_option maxRecDepth 20000 in
theorem gX8_digest_X7_digestFrom : GoodIn wsX8_digest (wsV RX8 355 RX7 yX7_digestFrom wsX7_digestFrom) := goodIn_app (goodIn_of _ (by decide +kernel)) ggX8_digest_X7_digestFrom
theorem dX8_digest_0 : decode cX8_digest 0 = .ok (.ldc2_w 343, 3) := by decide +kernel
theorem dX8_digest_3 : decode cX8_digest 3 = .ok (.lstore_n 1, 1) := by decide +kernel
theorem dX8_digest_4 : decode cX8_digest 4 = .ok (.iconst 0, 1) := by decide +kernel
theorem dX8_digest_5 : decode cX8_digest 5 = .ok (.istore_n 3, 1) := by decide +kernel
theorem dX8_digest_6 : decode cX8_digest 6 = .ok (.iload_n 3, 1) := by decide +kernel
theorem dX8_digest_7 : decode cX8_digest 7 = .ok (.bipush 8, 2) := by decide +kernel
theorem dX8_digest_9 : decode cX8_digest 9 = .ok (.if_icmp .gt 22, 3) := by decide +kernel
theorem dX8_digest_12 : decode cX8_digest 12 = .ok (.ldc2_w 345, 3) := by decide +kernel
theorem dX8_digest_15 : decode cX8_digest 15 = .ok (.lload_n 1, 1) := by decide +kernel
theorem dX8_digest_16 : decode cX8_digest 16 = .ok (.lmul, 1) := by decide +kernel
theorem dX8_digest_17 : decode cX8_digest 17 = .ok (.aload_n 0, 1) := by decide +kernel
theorem dX8_digest_18 : decode cX8_digest 18 = .ok (.iload_n 3, 1) := by decide +kernel
theorem dX8_digest_19 : decode cX8_digest 19 = .ok (.invokevirtual 347, 3) := by decide +kernel
theorem dX8_digest_22 : decode cX8_digest 22 = .ok (.i2l, 1) := by decide +kernel
theorem dX8_digest_23 : decode cX8_digest 23 = .ok (.ladd, 1) := by decide +kernel
theorem dX8_digest_24 : decode cX8_digest 24 = .ok (.lstore_n 1, 1) := by decide +kernel
theorem dX8_digest_25 : decode cX8_digest 25 = .ok (.iinc 3 1, 3) := by decide +kernel
theorem dX8_digest_28 : decode cX8_digest 28 = .ok (.goto (-22), 3) := by decide +kernel
theorem dX8_digest_31 : decode cX8_digest 31 = .ok (.aload_n 0, 1) := by decide +kernel
theorem dX8_digest_32 : decode cX8_digest 32 = .ok (.getfield 24, 3) := by decide +kernel
theorem dX8_digest_35 : decode cX8_digest 35 = .ok (.lload_n 1, 1) := by decide +kernel
theorem dX8_digest_36 : decode cX8_digest 36 = .ok (.invokevirtual 350, 3) := by decide +kernel
theorem dX8_digest_39 : decode cX8_digest 39 = .ok (.lstore_n 1, 1) := by decide +kernel
theorem dX8_digest_40 : decode cX8_digest 40 = .ok (.iconst 0, 1) := by decide +kernel
theorem dX8_digest_41 : decode cX8_digest 41 = .ok (.istore_n 3, 1) := by decide +kernel
theorem dX8_digest_42 : decode cX8_digest 42 = .ok (.iload_n 3, 1) := by decide +kernel
theorem dX8_digest_43 : decode cX8_digest 43 = .ok (.iconst 3, 1) := by decide +kernel
theorem dX8_digest_44 : decode cX8_digest 44 = .ok (.if_icmp .ge 42, 3) := by decide +kernel
theorem dX8_digest_47 : decode cX8_digest 47 = .ok (.ldc2_w 345, 3) := by decide +kernel
theorem dX8_digest_50 : decode cX8_digest 50 = .ok (.lload_n 1, 1) := by decide +kernel
theorem dX8_digest_51 : decode cX8_digest 51 = .ok (.lmul, 1) := by decide +kernel
theorem dX8_digest_52 : decode cX8_digest 52 = .ok (.aload_n 0, 1) := by decide +kernel
theorem dX8_digest_53 : decode cX8_digest 53 = .ok (.getfield 35, 3) := by decide +kernel
theorem dX8_digest_56 : decode cX8_digest 56 = .ok (.iload_n 3, 1) := by decide +kernel
theorem dX8_digest_57 : decode cX8_digest 57 = .ok (.baload, 1) := by decide +kernel
theorem dX8_digest_58 : decode cX8_digest 58 = .ok (.ifCond .eq 18, 3) := by decide +kernel
theorem dX8_digest_61 : decode cX8_digest 61 = .ok (.aload_n 0, 1) := by decide +kernel
theorem dX8_digest_62 : decode cX8_digest 62 = .ok (.getfield 31, 3) := by decide +kernel
theorem dX8_digest_65 : decode cX8_digest 65 = .ok (.iload_n 3, 1) := by decide +kernel
theorem dX8_digest_66 : decode cX8_digest 66 = .ok (.aaload, 1) := by decide +kernel
theorem dX8_digest_67 : decode cX8_digest 67 = .ok (.getfield 281, 3) := by decide +kernel
theorem dX8_digest_70 : decode cX8_digest 70 = .ok (.getfield 293, 3) := by decide +kernel
theorem dX8_digest_73 : decode cX8_digest 73 = .ok (.goto 4, 3) := by decide +kernel
theorem dX8_digest_76 : decode cX8_digest 76 = .ok (.iconst (-1), 1) := by decide +kernel
theorem dX8_digest_77 : decode cX8_digest 77 = .ok (.i2l, 1) := by decide +kernel
theorem dX8_digest_78 : decode cX8_digest 78 = .ok (.ladd, 1) := by decide +kernel
theorem dX8_digest_79 : decode cX8_digest 79 = .ok (.lstore_n 1, 1) := by decide +kernel
theorem dX8_digest_80 : decode cX8_digest 80 = .ok (.iinc 3 1, 3) := by decide +kernel
theorem dX8_digest_83 : decode cX8_digest 83 = .ok (.goto (-41), 3) := by decide +kernel
theorem dX8_digest_86 : decode cX8_digest 86 = .ok (.iconst 0, 1) := by decide +kernel
theorem dX8_digest_87 : decode cX8_digest 87 = .ok (.istore_n 3, 1) := by decide +kernel
theorem dX8_digest_88 : decode cX8_digest 88 = .ok (.iload_n 3, 1) := by decide +kernel
theorem dX8_digest_89 : decode cX8_digest 89 = .ok (.bipush 6, 2) := by decide +kernel
theorem dX8_digest_91 : decode cX8_digest 91 = .ok (.if_icmp .ge 20, 3) := by decide +kernel
theorem dX8_digest_94 : decode cX8_digest 94 = .ok (.aload_n 0, 1) := by decide +kernel
theorem dX8_digest_95 : decode cX8_digest 95 = .ok (.getfield 11, 3) := by decide +kernel
theorem dX8_digest_98 : decode cX8_digest 98 = .ok (.iload_n 3, 1) := by decide +kernel
theorem dX8_digest_99 : decode cX8_digest 99 = .ok (.aaload, 1) := by decide +kernel
theorem dX8_digest_100 : decode cX8_digest 100 = .ok (.lload_n 1, 1) := by decide +kernel
theorem dX8_digest_101 : decode cX8_digest 101 = .ok (.invokevirtual 354, 3) := by decide +kernel
theorem dX8_digest_104 : decode cX8_digest 104 = .ok (.lstore_n 1, 1) := by decide +kernel
theorem dX8_digest_105 : decode cX8_digest 105 = .ok (.iinc 3 1, 3) := by decide +kernel
theorem dX8_digest_108 : decode cX8_digest 108 = .ok (.goto (-20), 3) := by decide +kernel
theorem dX8_digest_111 : decode cX8_digest 111 = .ok (.iconst 0, 1) := by decide +kernel
theorem dX8_digest_112 : decode cX8_digest 112 = .ok (.istore_n 3, 1) := by decide +kernel
theorem dX8_digest_113 : decode cX8_digest 113 = .ok (.iload_n 3, 1) := by decide +kernel
theorem dX8_digest_114 : decode cX8_digest 114 = .ok (.iconst 4, 1) := by decide +kernel
theorem dX8_digest_115 : decode cX8_digest 115 = .ok (.if_icmp .ge 20, 3) := by decide +kernel
theorem dX8_digest_118 : decode cX8_digest 118 = .ok (.aload_n 0, 1) := by decide +kernel
theorem dX8_digest_119 : decode cX8_digest 119 = .ok (.getfield 17, 3) := by decide +kernel
theorem dX8_digest_122 : decode cX8_digest 122 = .ok (.iload_n 3, 1) := by decide +kernel
theorem dX8_digest_123 : decode cX8_digest 123 = .ok (.aaload, 1) := by decide +kernel
theorem dX8_digest_124 : decode cX8_digest 124 = .ok (.lload_n 1, 1) := by decide +kernel
theorem dX8_digest_125 : decode cX8_digest 125 = .ok (.invokevirtual 355, 3) := by decide +kernel
theorem dX8_digest_128 : decode cX8_digest 128 = .ok (.lstore_n 1, 1) := by decide +kernel
theorem dX8_digest_129 : decode cX8_digest 129 = .ok (.iinc 3 1, 3) := by decide +kernel
theorem dX8_digest_132 : decode cX8_digest 132 = .ok (.goto (-19), 3) := by decide +kernel
theorem dX8_digest_135 : decode cX8_digest 135 = .ok (.lload_n 1, 1) := by decide +kernel
theorem dX8_digest_136 : decode cX8_digest 136 = .ok (.lreturn, 1) := by decide +kernel
theorem dX8_isRow_0 : decode cX8_isRow 0 = .ok (.iload_n 0, 1) := by decide +kernel
theorem dX8_isRow_1 : decode cX8_isRow 1 = .ok (.ifCond .lt 13, 3) := by decide +kernel
theorem dX8_isRow_4 : decode cX8_isRow 4 = .ok (.iload_n 0, 1) := by decide +kernel
theorem dX8_isRow_5 : decode cX8_isRow 5 = .ok (.bipush 6, 2) := by decide +kernel
theorem dX8_isRow_7 : decode cX8_isRow 7 = .ok (.if_icmp .ge 7, 3) := by decide +kernel
theorem dX8_isRow_10 : decode cX8_isRow 10 = .ok (.iconst 1, 1) := by decide +kernel
theorem dX8_isRow_11 : decode cX8_isRow 11 = .ok (.goto 4, 3) := by decide +kernel
theorem dX8_isRow_14 : decode cX8_isRow 14 = .ok (.iconst 0, 1) := by decide +kernel
theorem dX8_isRow_15 : decode cX8_isRow 15 = .ok (.ireturn, 1) := by decide +kernel
theorem dX8_isText_0 : decode cX8_isText 0 = .ok (.iload_n 0, 1) := by decide +kernel
theorem dX8_isText_1 : decode cX8_isText 1 = .ok (.ifCond .lt 12, 3) := by decide +kernel
theorem dX8_isText_4 : decode cX8_isText 4 = .ok (.iload_n 0, 1) := by decide +kernel
theorem dX8_isText_5 : decode cX8_isText 5 = .ok (.iconst 4, 1) := by decide +kernel
theorem dX8_isText_6 : decode cX8_isText 6 = .ok (.if_icmp .ge 7, 3) := by decide +kernel
theorem dX8_isText_9 : decode cX8_isText 9 = .ok (.iconst 1, 1) := by decide +kernel
theorem dX8_isText_10 : decode cX8_isText 10 = .ok (.goto 4, 3) := by decide +kernel
theorem dX8_isText_13 : decode cX8_isText 13 = .ok (.iconst 0, 1) := by decide +kernel
theorem dX8_isText_14 : decode cX8_isText 14 = .ok (.ireturn, 1) := by decide +kernel
theorem dX8_isPlace_0 : decode cX8_isPlace 0 = .ok (.iload_n 0, 1) := by decide +kernel
theorem dX8_isPlace_1 : decode cX8_isPlace 1 = .ok (.ifCond .lt 12, 3) := by decide +kernel
theorem dX8_isPlace_4 : decode cX8_isPlace 4 = .ok (.iload_n 0, 1) := by decide +kernel
theorem dX8_isPlace_5 : decode cX8_isPlace 5 = .ok (.iconst 3, 1) := by decide +kernel
theorem dX8_isPlace_6 : decode cX8_isPlace 6 = .ok (.if_icmp .ge 7, 3) := by decide +kernel
theorem dX8_isPlace_9 : decode cX8_isPlace 9 = .ok (.iconst 1, 1) := by decide +kernel
theorem dX8_isPlace_10 : decode cX8_isPlace 10 = .ok (.goto 4, 3) := by decide +kernel
theorem dX8_isPlace_13 : decode cX8_isPlace 13 = .ok (.iconst 0, 1) := by decide +kernel
theorem dX8_isPlace_14 : decode cX8_isPlace 14 = .ok (.ireturn, 1) := by decide +kernel
theorem dX8_isThing_0 : decode cX8_isThing 0 = .ok (.iload_n 0, 1) := by decide +kernel
theorem dX8_isThing_1 : decode cX8_isThing 1 = .ok (.ifCond .lt 13, 3) := by decide +kernel
theorem dX8_isThing_4 : decode cX8_isThing 4 = .ok (.iload_n 0, 1) := by decide +kernel
theorem dX8_isThing_5 : decode cX8_isThing 5 = .ok (.bipush 8, 2) := by decide +kernel
theorem dX8_isThing_7 : decode cX8_isThing 7 = .ok (.if_icmp .ge 7, 3) := by decide +kernel
theorem dX8_isThing_10 : decode cX8_isThing 10 = .ok (.iconst 1, 1) := by decide +kernel
theorem dX8_isThing_11 : decode cX8_isThing 11 = .ok (.goto 4, 3) := by decide +kernel
theorem dX8_isThing_14 : decode cX8_isThing 14 = .ok (.iconst 0, 1) := by decide +kernel
theorem dX8_isThing_15 : decode cX8_isThing 15 = .ok (.ireturn, 1) := by decide +kernel
theorem dX8_isOne_0 : decode cX8_isOne 0 = .ok (.iload_n 1, 1) := by decide +kernel
theorem dX8_isOne_1 : decode cX8_isOne 1 = .ok (.ifCond .lt 18, 3) := by decide +kernel
theorem dX8_isOne_4 : decode cX8_isOne 4 = .ok (.iload_n 1, 1) := by decide +kernel
theorem dX8_isOne_5 : decode cX8_isOne 5 = .ok (.aload_n 0, 1) := by decide +kernel
theorem dX8_isOne_6 : decode cX8_isOne 6 = .ok (.getfield 24, 3) := by decide +kernel
theorem dX8_isOne_9 : decode cX8_isOne 9 = .ok (.getfield 131, 3) := by decide +kernel
theorem dX8_isOne_12 : decode cX8_isOne 12 = .ok (.if_icmp .ge 7, 3) := by decide +kernel
theorem dX8_isOne_15 : decode cX8_isOne 15 = .ok (.iconst 1, 1) := by decide +kernel
theorem dX8_isOne_16 : decode cX8_isOne 16 = .ok (.goto 4, 3) := by decide +kernel
theorem dX8_isOne_19 : decode cX8_isOne 19 = .ok (.iconst 0, 1) := by decide +kernel
theorem dX8_isOne_20 : decode cX8_isOne 20 = .ok (.ireturn, 1) := by decide +kernel
set_option maxRecDepth 20000 in
theorem ggX8_areTwo_X8_isOne : GoodIn wsX8_areTwo wsX8_isOne := goodIn_r _ [5, 6, 7, 8, 9, 10, 11, 12, 13, 14, 15, 16, 17, 18, 19, 20, 21, 22, 23, 24, 25, 26, 27, 28, 29, 30] (by decide +kernel) (by decide +kernel)
set_option maxRecDepth 20000 in
theorem gX8_areTwo_X8_isOne : GoodIn wsX8_areTwo (wsV RX8 134 RX8 yX8_isOne wsX8_isOne) := goodIn_app (goodIn_of _ (by decide +kernel)) ggX8_areTwo_X8_isOne
theorem dX8_areTwo_0 : decode cX8_areTwo 0 = .ok (.aload_n 0, 1) := by decide +kernel
theorem dX8_areTwo_1 : decode cX8_areTwo 1 = .ok (.iload_n 1, 1) := by decide +kernel
theorem dX8_areTwo_2 : decode cX8_areTwo 2 = .ok (.invokevirtual 134, 3) := by decide +kernel
theorem dX8_areTwo_5 : decode cX8_areTwo 5 = .ok (.ifCond .eq 20, 3) := by decide +kernel
theorem dX8_areTwo_8 : decode cX8_areTwo 8 = .ok (.aload_n 0, 1) := by decide +kernel
theorem dX8_areTwo_9 : decode cX8_areTwo 9 = .ok (.iload_n 2, 1) := by decide +kernel
theorem dX8_areTwo_10 : decode cX8_areTwo 10 = .ok (.invokevirtual 134, 3) := by decide +kernel
theorem dX8_areTwo_13 : decode cX8_areTwo 13 = .ok (.ifCond .eq 12, 3) := by decide +kernel
theorem dX8_areTwo_16 : decode cX8_areTwo 16 = .ok (.iload_n 1, 1) := by decide +kernel
theorem dX8_areTwo_17 : decode cX8_areTwo 17 = .ok (.iload_n 2, 1) := by decide +kernel
theorem dX8_areTwo_18 : decode cX8_areTwo 18 = .ok (.if_icmp .eq 7, 3) := by decide +kernel
theorem dX8_areTwo_21 : decode cX8_areTwo 21 = .ok (.iconst 1, 1) := by decide +kernel
theorem dX8_areTwo_22 : decode cX8_areTwo 22 = .ok (.goto 4, 3) := by decide +kernel
theorem dX8_areTwo_25 : decode cX8_areTwo 25 = .ok (.iconst 0, 1) := by decide +kernel
theorem dX8_areTwo_26 : decode cX8_areTwo 26 = .ok (.ireturn, 1) := by decide +kernel
theorem dX8_isRoom_0 : decode cX8_isRoom 0 = .ok (.aload_n 0, 1) := by decide +kernel
theorem dX8_isRoom_1 : decode cX8_isRoom 1 = .ok (.getfield 24, 3) := by decide +kernel
theorem dX8_isRoom_4 : decode cX8_isRoom 4 = .ok (.getfield 165, 3) := by decide +kernel
theorem dX8_isRoom_7 : decode cX8_isRoom 7 = .ok (.ifCond .le 22, 3) := by decide +kernel
theorem dX8_isRoom_10 : decode cX8_isRoom 10 = .ok (.iload_n 1, 1) := by decide +kernel
theorem dX8_isRoom_11 : decode cX8_isRoom 11 = .ok (.ifCond .lt 18, 3) := by decide +kernel
theorem dX8_isRoom_14 : decode cX8_isRoom 14 = .ok (.iload_n 1, 1) := by decide +kernel
theorem dX8_isRoom_15 : decode cX8_isRoom 15 = .ok (.aload_n 0, 1) := by decide +kernel
theorem dX8_isRoom_16 : decode cX8_isRoom 16 = .ok (.getfield 24, 3) := by decide +kernel
theorem dX8_isRoom_19 : decode cX8_isRoom 19 = .ok (.getfield 165, 3) := by decide +kernel
theorem dX8_isRoom_22 : decode cX8_isRoom 22 = .ok (.if_icmp .gt 7, 3) := by decide +kernel
theorem dX8_isRoom_25 : decode cX8_isRoom 25 = .ok (.iconst 1, 1) := by decide +kernel
theorem dX8_isRoom_26 : decode cX8_isRoom 26 = .ok (.goto 4, 3) := by decide +kernel
theorem dX8_isRoom_29 : decode cX8_isRoom 29 = .ok (.iconst 0, 1) := by decide +kernel
theorem dX8_isRoom_30 : decode cX8_isRoom 30 = .ok (.ireturn, 1) := by decide +kernel
set_option maxRecDepth 20000 in
theorem ggX8_isSet_X6_everyone : GoodIn wsX8_isSet wsX6_everyone := goodIn_r _ [6, 7, 20, 21, 22, 23, 24, 25, 26, 27, 28, 29, 30] (by decide +kernel) (by decide +kernel)
set_option maxRecDepth 20000 in
theorem gX8_isSet_X6_everyone : GoodIn wsX8_isSet (wsV RX8 192 RX6 yX6_everyone wsX6_everyone) := goodIn_app (goodIn_of _ (by decide +kernel)) ggX8_isSet_X6_everyone
theorem dX8_isSet_0 : decode cX8_isSet 0 = .ok (.iload_n 1, 1) := by decide +kernel
theorem dX8_isSet_1 : decode cX8_isSet 1 = .ok (.ifCond .lt 18, 3) := by decide +kernel
theorem dX8_isSet_4 : decode cX8_isSet 4 = .ok (.iload_n 1, 1) := by decide +kernel
theorem dX8_isSet_5 : decode cX8_isSet 5 = .ok (.aload_n 0, 1) := by decide +kernel
theorem dX8_isSet_6 : decode cX8_isSet 6 = .ok (.getfield 24, 3) := by decide +kernel
theorem dX8_isSet_9 : decode cX8_isSet 9 = .ok (.invokevirtual 192, 3) := by decide +kernel
theorem dX8_isSet_12 : decode cX8_isSet 12 = .ok (.if_icmp .gt 7, 3) := by decide +kernel
theorem dX8_isSet_15 : decode cX8_isSet 15 = .ok (.iconst 1, 1) := by decide +kernel
theorem dX8_isSet_16 : decode cX8_isSet 16 = .ok (.goto 4, 3) := by decide +kernel
theorem dX8_isSet_19 : decode cX8_isSet 19 = .ok (.iconst 0, 1) := by decide +kernel
theorem dX8_isSet_20 : decode cX8_isSet 20 = .ok (.ireturn, 1) := by decide +kernel
theorem dX8_find_0 : decode cX8_find 0 = .ok (.aload_n 0, 1) := by decide +kernel
theorem dX8_find_1 : decode cX8_find 1 = .ok (.iload_n 1, 1) := by decide +kernel
theorem dX8_find_2 : decode cX8_find 2 = .ok (.putfield 340, 3) := by decide +kernel
theorem dX8_find_5 : decode cX8_find 5 = .ok (.aload_n 0, 1) := by decide +kernel
theorem dX8_find_6 : decode cX8_find 6 = .ok (.getfield 60, 3) := by decide +kernel
theorem dX8_find_9 : decode cX8_find 9 = .ok (.iload_n 1, 1) := by decide +kernel
theorem dX8_find_10 : decode cX8_find 10 = .ok (.dup2, 1) := by decide +kernel
theorem dX8_find_11 : decode cX8_find 11 = .ok (.iaload, 1) := by decide +kernel
theorem dX8_find_12 : decode cX8_find 12 = .ok (.iconst 1, 1) := by decide +kernel
theorem dX8_find_13 : decode cX8_find 13 = .ok (.iadd, 1) := by decide +kernel
theorem dX8_find_14 : decode cX8_find 14 = .ok (.iastore, 1) := by decide +kernel
theorem dX8_find_15 : decode cX8_find 15 = .ok (.bipush (-3), 2) := by decide +kernel
theorem dX8_find_17 : decode cX8_find 17 = .ok (.ireturn, 1) := by decide +kernel
set_option maxRecDepth 20000 in
theorem ggX8_isFewer_J6_bitCount_0f7a4 : GoodIn wsX8_isFewer wsJ6_bitCount_0f7a4 := goodIn_r _ [4, 5, 6, 7] (by decide +kernel) (by decide +kernel)
set_option maxRecDepth 20000 in
theorem gX8_isFewer_J6_bitCount_0f7a4 : GoodIn wsX8_isFewer (va_wsS RX8 151 yJ6_bitCount_0f7a4 wsJ6_bitCount_0f7a4) := goodIn_app (goodIn_of _ (by decide +kernel)) ggX8_isFewer_J6_bitCount_0f7a4
theorem dX8_isFewer_0 : decode cX8_isFewer 0 = .ok (.iload_n 1, 1) := by decide +kernel
theorem dX8_isFewer_1 : decode cX8_isFewer 1 = .ok (.bipush (-9), 2) := by decide +kernel
theorem dX8_isFewer_3 : decode cX8_isFewer 3 = .ok (.if_icmp .eq 14, 3) := by decide +kernel
theorem dX8_isFewer_6 : decode cX8_isFewer 6 = .ok (.iload_n 0, 1) := by decide +kernel
theorem dX8_isFewer_7 : decode cX8_isFewer 7 = .ok (.invokestatic 151, 3) := by decide +kernel
theorem dX8_isFewer_10 : decode cX8_isFewer 10 = .ok (.iload_n 1, 1) := by decide +kernel
theorem dX8_isFewer_11 : decode cX8_isFewer 11 = .ok (.invokestatic 151, 3) := by decide +kernel
theorem dX8_isFewer_14 : decode cX8_isFewer 14 = .ok (.if_icmp .ge 7, 3) := by decide +kernel
theorem dX8_isFewer_17 : decode cX8_isFewer 17 = .ok (.iconst 1, 1) := by decide +kernel
theorem dX8_isFewer_18 : decode cX8_isFewer 18 = .ok (.goto 4, 3) := by decide +kernel
theorem dX8_isFewer_21 : decode cX8_isFewer 21 = .ok (.iconst 0, 1) := by decide +kernel
theorem dX8_isFewer_22 : decode cX8_isFewer 22 = .ok (.ireturn, 1) := by decide +kernel
set_option maxRecDepth 20000 in
theorem ggX8_tellSet_J6_bitCount_0f7a4 : GoodIn wsX8_tellSet wsJ6_bitCount_0f7a4 := goodIn_r _ [5, 6, 7, 8] (by decide +kernel) (by decide +kernel)
set_option maxRecDepth 20000 in
theorem gX8_tellSet_J6_bitCount_0f7a4 : GoodIn wsX8_tellSet (va_wsS RX8 151 yJ6_bitCount_0f7a4 wsJ6_bitCount_0f7a4) := goodIn_app (goodIn_of _ (by decide +kernel)) ggX8_tellSet_J6_bitCount_0f7a4
theorem dX8_tellSet_0 : decode cX8_tellSet 0 = .ok (.iload_n 1, 1) := by decide +kernel
theorem dX8_tellSet_1 : decode cX8_tellSet 1 = .ok (.bipush (-9), 2) := by decide +kernel
theorem dX8_tellSet_3 : decode cX8_tellSet 3 = .ok (.if_icmp .ne 6, 3) := by decide +kernel
theorem dX8_tellSet_6 : decode cX8_tellSet 6 = .ok (.bipush (-9), 2) := by decide +kernel
theorem dX8_tellSet_8 : decode cX8_tellSet 8 = .ok (.ireturn, 1) := by decide +kernel
theorem dX8_tellSet_9 : decode cX8_tellSet 9 = .ok (.aload_n 0, 1) := by decide +kernel
theorem dX8_tellSet_10 : decode cX8_tellSet 10 = .ok (.iload_n 1, 1) := by decide +kernel
theorem dX8_tellSet_11 : decode cX8_tellSet 11 = .ok (.putfield 92, 3) := by decide +kernel
theorem dX8_tellSet_14 : decode cX8_tellSet 14 = .ok (.iload_n 1, 1) := by decide +kernel
theorem dX8_tellSet_15 : decode cX8_tellSet 15 = .ok (.invokestatic 151, 3) := by decide +kernel
theorem dX8_tellSet_18 : decode cX8_tellSet 18 = .ok (.ireturn, 1) := by decide +kernel
set_option maxRecDepth 20000 in
theorem ggX8_isSafeByPasting_X5_begin : GoodIn wsX8_isSafeByPasting wsX5_begin := goodIn_r _ [11, 12, 13, 97, 98] (by decide +kernel) (by decide +kernel)
set_option maxRecDepth 20000 in
theorem gX8_isSafeByPasting_X5_begin : GoodIn wsX8_isSafeByPasting (wsV RX8 356 RX5 yX5_begin wsX5_begin) := goodIn_app (goodIn_of _ (by decide +kernel)) ggX8_isSafeByPasting_X5_begin
set_option maxRecDepth 20000 in
theorem ggX8_isSafeByPasting_X6_measure : GoodIn wsX8_isSafeByPasting wsX6_measure := goodIn_r _ [18, 19, 20, 21, 86, 87, 88, 89, 90, 91, 92, 93, 94, 95, 96] (by decide +kernel) (by decide +kernel)
set_option maxRecDepth 20000 in
theorem gX8_isSafeByPasting_X6_measure : GoodIn wsX8_isSafeByPasting (wsV RX8 171 RX6 yX6_measure wsX6_measure) := goodIn_app (goodIn_of _ (by decide +kernel)) ggX8_isSafeByPasting_X6_measure
set_option maxRecDepth 20000 in
theorem ggX8_isSafeByPasting_X6_isSafe : GoodIn wsX8_isSafeByPasting wsX6_isSafe := goodIn_r _ [25, 26, 27, 28, 17, 29, 30, 31, 32, 33, 34, 35, 36, 37, 38, 39, 40, 41, 42, 43, 44, 45, 46, 47, 48, 49, 50, 51, 52, 53, 54, 55, 56, 57, 20, 58, 59, 60, 61, 62, 63, 64, 65, 66, 67, 68, 69, 86, 87, 88, 89, 90, 91, 92, 93, 94, 95, 96] (by decide +kernel) (by decide +kernel)
set_option maxRecDepth 20000 in
theorem gX8_isSafeByPasting_X6_isSafe : GoodIn wsX8_isSafeByPasting (wsV RX8 218 RX6 yX6_isSafe wsX6_isSafe) := goodIn_app (goodIn_of _ (by decide +kernel)) ggX8_isSafeByPasting_X6_isSafe
set_option maxRecDepth 20000 in
theorem ggX8_isSafeByPasting_X5_advance : GoodIn wsX8_isSafeByPasting wsX5_advance := goodIn_r _ [73, 12, 13, 97, 98] (by decide +kernel) (by decide +kernel)
set_option maxRecDepth 20000 in
theorem gX8_isSafeByPasting_X5_advance : GoodIn wsX8_isSafeByPasting (wsV RX8 358 RX5 yX5_advance wsX5_advance) := goodIn_app (goodIn_of _ (by decide +kernel)) ggX8_isSafeByPasting_X5_advance
theorem dX8_isSafeByPasting_0 : decode cX8_isSafeByPasting 0 = .ok (.aload_n 0, 1) := by decide +kernel
theorem dX8_isSafeByPasting_1 : decode cX8_isSafeByPasting 1 = .ok (.getfield 56, 3) := by decide +kernel
theorem dX8_isSafeByPasting_4 : decode cX8_isSafeByPasting 4 = .ok (.aload_n 0, 1) := by decide +kernel
theorem dX8_isSafeByPasting_5 : decode cX8_isSafeByPasting 5 = .ok (.getfield 24, 3) := by decide +kernel
theorem dX8_isSafeByPasting_8 : decode cX8_isSafeByPasting 8 = .ok (.getfield 165, 3) := by decide +kernel
theorem dX8_isSafeByPasting_11 : decode cX8_isSafeByPasting 11 = .ok (.iload_n 2, 1) := by decide +kernel
theorem dX8_isSafeByPasting_12 : decode cX8_isSafeByPasting 12 = .ok (.invokevirtual 356, 3) := by decide +kernel
theorem dX8_isSafeByPasting_15 : decode cX8_isSafeByPasting 15 = .ok (.iconst 0, 1) := by decide +kernel
theorem dX8_isSafeByPasting_16 : decode cX8_isSafeByPasting 16 = .ok (.istore_n 3, 1) := by decide +kernel
theorem dX8_isSafeByPasting_17 : decode cX8_isSafeByPasting 17 = .ok (.iload_n 3, 1) := by decide +kernel
theorem dX8_isSafeByPasting_18 : decode cX8_isSafeByPasting 18 = .ok (.sipush 1000, 3) := by decide +kernel
theorem dX8_isSafeByPasting_21 : decode cX8_isSafeByPasting 21 = .ok (.if_icmp .ge 94, 3) := by decide +kernel
theorem dX8_isSafeByPasting_24 : decode cX8_isSafeByPasting 24 = .ok (.iconst 0, 1) := by decide +kernel
theorem dX8_isSafeByPasting_25 : decode cX8_isSafeByPasting 25 = .ok (.istore 4, 2) := by decide +kernel
theorem dX8_isSafeByPasting_27 : decode cX8_isSafeByPasting 27 = .ok (.iload 4, 2) := by decide +kernel
theorem dX8_isSafeByPasting_29 : decode cX8_isSafeByPasting 29 = .ok (.aload_n 0, 1) := by decide +kernel
theorem dX8_isSafeByPasting_30 : decode cX8_isSafeByPasting 30 = .ok (.getfield 24, 3) := by decide +kernel
theorem dX8_isSafeByPasting_33 : decode cX8_isSafeByPasting 33 = .ok (.getfield 165, 3) := by decide +kernel
theorem dX8_isSafeByPasting_36 : decode cX8_isSafeByPasting 36 = .ok (.if_icmp .ge 40, 3) := by decide +kernel
theorem dX8_isSafeByPasting_39 : decode cX8_isSafeByPasting 39 = .ok (.aload_n 0, 1) := by decide +kernel
theorem dX8_isSafeByPasting_40 : decode cX8_isSafeByPasting 40 = .ok (.getfield 28, 3) := by decide +kernel
theorem dX8_isSafeByPasting_43 : decode cX8_isSafeByPasting 43 = .ok (.getfield 168, 3) := by decide +kernel
theorem dX8_isSafeByPasting_46 : decode cX8_isSafeByPasting 46 = .ok (.iload 4, 2) := by decide +kernel
theorem dX8_isSafeByPasting_48 : decode cX8_isSafeByPasting 48 = .ok (.aload_n 0, 1) := by decide +kernel
theorem dX8_isSafeByPasting_49 : decode cX8_isSafeByPasting 49 = .ok (.getfield 24, 3) := by decide +kernel
theorem dX8_isSafeByPasting_52 : decode cX8_isSafeByPasting 52 = .ok (.getfield 168, 3) := by decide +kernel
theorem dX8_isSafeByPasting_55 : decode cX8_isSafeByPasting 55 = .ok (.iload 4, 2) := by decide +kernel
theorem dX8_isSafeByPasting_57 : decode cX8_isSafeByPasting 57 = .ok (.iaload, 1) := by decide +kernel
theorem dX8_isSafeByPasting_58 : decode cX8_isSafeByPasting 58 = .ok (.aload_n 0, 1) := by decide +kernel
theorem dX8_isSafeByPasting_59 : decode cX8_isSafeByPasting 59 = .ok (.getfield 56, 3) := by decide +kernel
theorem dX8_isSafeByPasting_62 : decode cX8_isSafeByPasting 62 = .ok (.getfield 260, 3) := by decide +kernel
theorem dX8_isSafeByPasting_65 : decode cX8_isSafeByPasting 65 = .ok (.iload 4, 2) := by decide +kernel
theorem dX8_isSafeByPasting_67 : decode cX8_isSafeByPasting 67 = .ok (.iaload, 1) := by decide +kernel
theorem dX8_isSafeByPasting_68 : decode cX8_isSafeByPasting 68 = .ok (.iadd, 1) := by decide +kernel
theorem dX8_isSafeByPasting_69 : decode cX8_isSafeByPasting 69 = .ok (.iastore, 1) := by decide +kernel
theorem dX8_isSafeByPasting_70 : decode cX8_isSafeByPasting 70 = .ok (.iinc 4 1, 3) := by decide +kernel
theorem dX8_isSafeByPasting_73 : decode cX8_isSafeByPasting 73 = .ok (.goto (-46), 3) := by decide +kernel
theorem dX8_isSafeByPasting_76 : decode cX8_isSafeByPasting 76 = .ok (.aload_n 0, 1) := by decide +kernel
theorem dX8_isSafeByPasting_77 : decode cX8_isSafeByPasting 77 = .ok (.getfield 28, 3) := by decide +kernel
theorem dX8_isSafeByPasting_80 : decode cX8_isSafeByPasting 80 = .ok (.invokevirtual 171, 3) := by decide +kernel
theorem dX8_isSafeByPasting_83 : decode cX8_isSafeByPasting 83 = .ok (.aload_n 0, 1) := by decide +kernel
theorem dX8_isSafeByPasting_84 : decode cX8_isSafeByPasting 84 = .ok (.getfield 28, 3) := by decide +kernel
theorem dX8_isSafeByPasting_87 : decode cX8_isSafeByPasting 87 = .ok (.iload_n 1, 1) := by decide +kernel
theorem dX8_isSafeByPasting_88 : decode cX8_isSafeByPasting 88 = .ok (.iconst 0, 1) := by decide +kernel
theorem dX8_isSafeByPasting_89 : decode cX8_isSafeByPasting 89 = .ok (.invokevirtual 218, 3) := by decide +kernel
theorem dX8_isSafeByPasting_92 : decode cX8_isSafeByPasting 92 = .ok (.ifCond .eq 5, 3) := by decide +kernel
theorem dX8_isSafeByPasting_95 : decode cX8_isSafeByPasting 95 = .ok (.iconst 1, 1) := by decide +kernel
theorem dX8_isSafeByPasting_96 : decode cX8_isSafeByPasting 96 = .ok (.ireturn, 1) := by decide +kernel
theorem dX8_isSafeByPasting_97 : decode cX8_isSafeByPasting 97 = .ok (.aload_n 0, 1) := by decide +kernel
theorem dX8_isSafeByPasting_98 : decode cX8_isSafeByPasting 98 = .ok (.getfield 56, 3) := by decide +kernel
theorem dX8_isSafeByPasting_101 : decode cX8_isSafeByPasting 101 = .ok (.invokevirtual 358, 3) := by decide +kernel
theorem dX8_isSafeByPasting_104 : decode cX8_isSafeByPasting 104 = .ok (.ifCond .ne 5, 3) := by decide +kernel
theorem dX8_isSafeByPasting_107 : decode cX8_isSafeByPasting 107 = .ok (.iconst 0, 1) := by decide +kernel
theorem dX8_isSafeByPasting_108 : decode cX8_isSafeByPasting 108 = .ok (.ireturn, 1) := by decide +kernel
theorem dX8_isSafeByPasting_109 : decode cX8_isSafeByPasting 109 = .ok (.iinc 3 1, 3) := by decide +kernel
theorem dX8_isSafeByPasting_112 : decode cX8_isSafeByPasting 112 = .ok (.goto (-95), 3) := by decide +kernel
theorem dX8_isSafeByPasting_115 : decode cX8_isSafeByPasting 115 = .ok (.iconst 0, 1) := by decide +kernel
theorem dX8_isSafeByPasting_116 : decode cX8_isSafeByPasting 116 = .ok (.ireturn, 1) := by decide +kernel
theorem dX8_commonDivisor_0 : decode cX8_commonDivisor 0 = .ok (.iload_n 0, 1) := by decide +kernel
theorem dX8_commonDivisor_1 : decode cX8_commonDivisor 1 = .ok (.iload_n 1, 1) := by decide +kernel
theorem dX8_commonDivisor_2 : decode cX8_commonDivisor 2 = .ok (.invokestatic 271, 3) := by decide +kernel
theorem dX8_commonDivisor_5 : decode cX8_commonDivisor 5 = .ok (.istore_n 2, 1) := by decide +kernel
theorem dX8_commonDivisor_6 : decode cX8_commonDivisor 6 = .ok (.iload_n 2, 1) := by decide +kernel
theorem dX8_commonDivisor_7 : decode cX8_commonDivisor 7 = .ok (.istore_n 3, 1) := by decide +kernel
theorem dX8_commonDivisor_8 : decode cX8_commonDivisor 8 = .ok (.iload_n 3, 1) := by decide +kernel
theorem dX8_commonDivisor_9 : decode cX8_commonDivisor 9 = .ok (.iconst 1, 1) := by decide +kernel
theorem dX8_commonDivisor_10 : decode cX8_commonDivisor 10 = .ok (.if_icmp .le 23, 3) := by decide +kernel
theorem dX8_commonDivisor_13 : decode cX8_commonDivisor 13 = .ok (.iload_n 0, 1) := by decide +kernel
theorem dX8_commonDivisor_14 : decode cX8_commonDivisor 14 = .ok (.iload_n 3, 1) := by decide +kernel
theorem dX8_commonDivisor_15 : decode cX8_commonDivisor 15 = .ok (.irem, 1) := by decide +kernel
theorem dX8_commonDivisor_16 : decode cX8_commonDivisor 16 = .ok (.ifCond .ne 11, 3) := by decide +kernel
theorem dX8_commonDivisor_19 : decode cX8_commonDivisor 19 = .ok (.iload_n 1, 1) := by decide +kernel
theorem dX8_commonDivisor_20 : decode cX8_commonDivisor 20 = .ok (.iload_n 3, 1) := by decide +kernel
theorem dX8_commonDivisor_21 : decode cX8_commonDivisor 21 = .ok (.irem, 1) := by decide +kernel
theorem dX8_commonDivisor_22 : decode cX8_commonDivisor 22 = .ok (.ifCond .ne 5, 3) := by decide +kernel
theorem dX8_commonDivisor_25 : decode cX8_commonDivisor 25 = .ok (.iload_n 3, 1) := by decide +kernel
theorem dX8_commonDivisor_26 : decode cX8_commonDivisor 26 = .ok (.ireturn, 1) := by decide +kernel
theorem dX8_commonDivisor_27 : decode cX8_commonDivisor 27 = .ok (.iinc 3 (-1), 3) := by decide +kernel
theorem dX8_commonDivisor_30 : decode cX8_commonDivisor 30 = .ok (.goto (-22), 3) := by decide +kernel
theorem dX8_commonDivisor_33 : decode cX8_commonDivisor 33 = .ok (.iconst 1, 1) := by decide +kernel
theorem dX8_commonDivisor_34 : decode cX8_commonDivisor 34 = .ok (.ireturn, 1) := by decide +kernel
set_option maxRecDepth 20000 in
theorem ggX8_howManyRows_X4_isMissing : GoodIn wsX8_howManyRows wsX4_isMissing := goodIn_r _ [6, 7, 20, 21] (by decide +kernel) (by decide +kernel)
set_option maxRecDepth 20000 in
theorem gX8_howManyRows_X4_isMissing : GoodIn wsX8_howManyRows (wsV RX8 85 RX4 yX4_isMissing wsX4_isMissing) := goodIn_app (goodIn_of _ (by decide +kernel)) ggX8_howManyRows_X4_isMissing
theorem dX8_howManyRows_0 : decode cX8_howManyRows 0 = .ok (.iconst 0, 1) := by decide +kernel
theorem dX8_howManyRows_1 : decode cX8_howManyRows 1 = .ok (.istore_n 1, 1) := by decide +kernel
theorem dX8_howManyRows_2 : decode cX8_howManyRows 2 = .ok (.iconst 0, 1) := by decide +kernel
theorem dX8_howManyRows_3 : decode cX8_howManyRows 3 = .ok (.istore_n 2, 1) := by decide +kernel
theorem dX8_howManyRows_4 : decode cX8_howManyRows 4 = .ok (.iload_n 2, 1) := by decide +kernel
theorem dX8_howManyRows_5 : decode cX8_howManyRows 5 = .ok (.bipush 6, 2) := by decide +kernel
theorem dX8_howManyRows_7 : decode cX8_howManyRows 7 = .ok (.if_icmp .ge 29, 3) := by decide +kernel
theorem dX8_howManyRows_10 : decode cX8_howManyRows 10 = .ok (.iload_n 1, 1) := by decide +kernel
theorem dX8_howManyRows_11 : decode cX8_howManyRows 11 = .ok (.aload_n 0, 1) := by decide +kernel
theorem dX8_howManyRows_12 : decode cX8_howManyRows 12 = .ok (.getfield 11, 3) := by decide +kernel
theorem dX8_howManyRows_15 : decode cX8_howManyRows 15 = .ok (.iload_n 2, 1) := by decide +kernel
theorem dX8_howManyRows_16 : decode cX8_howManyRows 16 = .ok (.aaload, 1) := by decide +kernel
theorem dX8_howManyRows_17 : decode cX8_howManyRows 17 = .ok (.invokevirtual 85, 3) := by decide +kernel
theorem dX8_howManyRows_20 : decode cX8_howManyRows 20 = .ok (.ifCond .eq 7, 3) := by decide +kernel
theorem dX8_howManyRows_23 : decode cX8_howManyRows 23 = .ok (.iconst 0, 1) := by decide +kernel
theorem dX8_howManyRows_24 : decode cX8_howManyRows 24 = .ok (.goto 4, 3) := by decide +kernel
theorem dX8_howManyRows_27 : decode cX8_howManyRows 27 = .ok (.iconst 1, 1) := by decide +kernel
theorem dX8_howManyRows_28 : decode cX8_howManyRows 28 = .ok (.iadd, 1) := by decide +kernel
theorem dX8_howManyRows_29 : decode cX8_howManyRows 29 = .ok (.istore_n 1, 1) := by decide +kernel
theorem dX8_howManyRows_30 : decode cX8_howManyRows 30 = .ok (.iinc 2 1, 3) := by decide +kernel
theorem dX8_howManyRows_33 : decode cX8_howManyRows 33 = .ok (.goto (-29), 3) := by decide +kernel
theorem dX8_howManyRows_36 : decode cX8_howManyRows 36 = .ok (.iload_n 1, 1) := by decide +kernel
theorem dX8_howManyRows_37 : decode cX8_howManyRows 37 = .ok (.ireturn, 1) := by decide +kernel
set_option maxRecDepth 20000 in
theorem ggX8_howManyTexts_X7_isMissing : GoodIn wsX8_howManyTexts wsX7_isMissing := goodIn_r _ [6, 7, 20, 21] (by decide +kernel) (by decide +kernel)
set_option maxRecDepth 20000 in
theorem gX8_howManyTexts_X7_isMissing : GoodIn wsX8_howManyTexts (wsV RX8 117 RX7 yX7_isMissing wsX7_isMissing) := goodIn_app (goodIn_of _ (by decide +kernel)) ggX8_howManyTexts_X7_isMissing
theorem dX8_howManyTexts_0 : decode cX8_howManyTexts 0 = .ok (.iconst 0, 1) := by decide +kernel
theorem dX8_howManyTexts_1 : decode cX8_howManyTexts 1 = .ok (.istore_n 1, 1) := by decide +kernel
theorem dX8_howManyTexts_2 : decode cX8_howManyTexts 2 = .ok (.iconst 0, 1) := by decide +kernel
theorem dX8_howManyTexts_3 : decode cX8_howManyTexts 3 = .ok (.istore_n 2, 1) := by decide +kernel
theorem dX8_howManyTexts_4 : decode cX8_howManyTexts 4 = .ok (.iload_n 2, 1) := by decide +kernel
theorem dX8_howManyTexts_5 : decode cX8_howManyTexts 5 = .ok (.iconst 4, 1) := by decide +kernel
theorem dX8_howManyTexts_6 : decode cX8_howManyTexts 6 = .ok (.if_icmp .ge 29, 3) := by decide +kernel
theorem dX8_howManyTexts_9 : decode cX8_howManyTexts 9 = .ok (.iload_n 1, 1) := by decide +kernel
theorem dX8_howManyTexts_10 : decode cX8_howManyTexts 10 = .ok (.aload_n 0, 1) := by decide +kernel
theorem dX8_howManyTexts_11 : decode cX8_howManyTexts 11 = .ok (.getfield 17, 3) := by decide +kernel
theorem dX8_howManyTexts_14 : decode cX8_howManyTexts 14 = .ok (.iload_n 2, 1) := by decide +kernel
theorem dX8_howManyTexts_15 : decode cX8_howManyTexts 15 = .ok (.aaload, 1) := by decide +kernel
theorem dX8_howManyTexts_16 : decode cX8_howManyTexts 16 = .ok (.invokevirtual 117, 3) := by decide +kernel
theorem dX8_howManyTexts_19 : decode cX8_howManyTexts 19 = .ok (.ifCond .eq 7, 3) := by decide +kernel
theorem dX8_howManyTexts_22 : decode cX8_howManyTexts 22 = .ok (.iconst 0, 1) := by decide +kernel
theorem dX8_howManyTexts_23 : decode cX8_howManyTexts 23 = .ok (.goto 4, 3) := by decide +kernel
theorem dX8_howManyTexts_26 : decode cX8_howManyTexts 26 = .ok (.iconst 1, 1) := by decide +kernel
theorem dX8_howManyTexts_27 : decode cX8_howManyTexts 27 = .ok (.iadd, 1) := by decide +kernel
theorem dX8_howManyTexts_28 : decode cX8_howManyTexts 28 = .ok (.istore_n 1, 1) := by decide +kernel
theorem dX8_howManyTexts_29 : decode cX8_howManyTexts 29 = .ok (.iinc 2 1, 3) := by decide +kernel
theorem dX8_howManyTexts_32 : decode cX8_howManyTexts 32 = .ok (.goto (-28), 3) := by decide +kernel
theorem dX8_howManyTexts_35 : decode cX8_howManyTexts 35 = .ok (.iload_n 1, 1) := by decide +kernel
theorem dX8_howManyTexts_36 : decode cX8_howManyTexts 36 = .ok (.ireturn, 1) := by decide +kernel
theorem dX8_howManyKept_0 : decode cX8_howManyKept 0 = .ok (.iconst 0, 1) := by decide +kernel
theorem dX8_howManyKept_1 : decode cX8_howManyKept 1 = .ok (.istore_n 1, 1) := by decide +kernel
theorem dX8_howManyKept_2 : decode cX8_howManyKept 2 = .ok (.iconst 0, 1) := by decide +kernel
theorem dX8_howManyKept_3 : decode cX8_howManyKept 3 = .ok (.istore_n 2, 1) := by decide +kernel
theorem dX8_howManyKept_4 : decode cX8_howManyKept 4 = .ok (.iload_n 2, 1) := by decide +kernel
theorem dX8_howManyKept_5 : decode cX8_howManyKept 5 = .ok (.iconst 3, 1) := by decide +kernel
theorem dX8_howManyKept_6 : decode cX8_howManyKept 6 = .ok (.if_icmp .ge 26, 3) := by decide +kernel
theorem dX8_howManyKept_9 : decode cX8_howManyKept 9 = .ok (.iload_n 1, 1) := by decide +kernel
theorem dX8_howManyKept_10 : decode cX8_howManyKept 10 = .ok (.aload_n 0, 1) := by decide +kernel
theorem dX8_howManyKept_11 : decode cX8_howManyKept 11 = .ok (.getfield 35, 3) := by decide +kernel
theorem dX8_howManyKept_14 : decode cX8_howManyKept 14 = .ok (.iload_n 2, 1) := by decide +kernel
theorem dX8_howManyKept_15 : decode cX8_howManyKept 15 = .ok (.baload, 1) := by decide +kernel
theorem dX8_howManyKept_16 : decode cX8_howManyKept 16 = .ok (.ifCond .eq 7, 3) := by decide +kernel
theorem dX8_howManyKept_19 : decode cX8_howManyKept 19 = .ok (.iconst 1, 1) := by decide +kernel
theorem dX8_howManyKept_20 : decode cX8_howManyKept 20 = .ok (.goto 4, 3) := by decide +kernel
theorem dX8_howManyKept_23 : decode cX8_howManyKept 23 = .ok (.iconst 0, 1) := by decide +kernel
theorem dX8_howManyKept_24 : decode cX8_howManyKept 24 = .ok (.iadd, 1) := by decide +kernel
theorem dX8_howManyKept_25 : decode cX8_howManyKept 25 = .ok (.istore_n 1, 1) := by decide +kernel
theorem dX8_howManyKept_26 : decode cX8_howManyKept 26 = .ok (.iinc 2 1, 3) := by decide +kernel
theorem dX8_howManyKept_29 : decode cX8_howManyKept 29 = .ok (.goto (-25), 3) := by decide +kernel
theorem dX8_howManyKept_32 : decode cX8_howManyKept 32 = .ok (.iload_n 1, 1) := by decide +kernel
theorem dX8_howManyKept_33 : decode cX8_howManyKept 33 = .ok (.ireturn, 1) := by decide +kernel
theorem dX9_init_0 : decode cX9_init 0 = .ok (.aload_n 0, 1) := by decide +kernel
theorem dX9_init_1 : decode cX9_init 1 = .ok (.invokespecial 1, 3) := by decide +kernel
theorem dX9_init_4 : decode cX9_init 4 = .ok (.aload_n 0, 1) := by decide +kernel
theorem dX9_init_5 : decode cX9_init 5 = .ok (.bipush 6, 2) := by decide +kernel
theorem dX9_init_7 : decode cX9_init 7 = .ok (.newarray .int, 2) := by decide +kernel
theorem dX9_init_9 : decode cX9_init 9 = .ok (.putfield 7, 3) := by decide +kernel
theorem dX9_init_12 : decode cX9_init 12 = .ok (.aload_n 0, 1) := by decide +kernel
theorem dX9_init_13 : decode cX9_init 13 = .ok (.sipush 240, 3) := by decide +kernel
theorem dX9_init_16 : decode cX9_init 16 = .ok (.newarray .int, 2) := by decide +kernel
theorem dX9_init_18 : decode cX9_init 18 = .ok (.putfield 13, 3) := by decide +kernel
theorem dX9_init_21 : decode cX9_init 21 = .ok (.aload_n 0, 1) := by decide +kernel
theorem dX9_init_22 : decode cX9_init 22 = .ok (.iconst 4, 1) := by decide +kernel
theorem dX9_init_23 : decode cX9_init 23 = .ok (.newarray .int, 2) := by decide +kernel
theorem dX9_init_25 : decode cX9_init 25 = .ok (.putfield 16, 3) := by decide +kernel
theorem dX9_init_28 : decode cX9_init 28 = .ok (.aload_n 0, 1) := by decide +kernel
theorem dX9_init_29 : decode cX9_init 29 = .ok (.sipush 320, 3) := by decide +kernel
theorem dX9_init_32 : decode cX9_init 32 = .ok (.newarray .int, 2) := by decide +kernel
theorem dX9_init_34 : decode cX9_init 34 = .ok (.putfield 19, 3) := by decide +kernel
theorem dX9_init_37 : decode cX9_init 37 = .ok (.aload_n 0, 1) := by decide +kernel
theorem dX9_init_38 : decode cX9_init 38 = .ok (.bipush 7, 2) := by decide +kernel
theorem dX9_init_40 : decode cX9_init 40 = .ok (.newarray .int, 2) := by decide +kernel
theorem dX9_init_42 : decode cX9_init 42 = .ok (.putfield 22, 3) := by decide +kernel
theorem dX9_init_45 : decode cX9_init 45 = .ok (.aload_n 0, 1) := by decide +kernel
theorem dX9_init_46 : decode cX9_init 46 = .ok (.bipush 7, 2) := by decide +kernel
theorem dX9_init_48 : decode cX9_init 48 = .ok (.newarray .int, 2) := by decide +kernel
theorem dX9_init_50 : decode cX9_init 50 = .ok (.putfield 25, 3) := by decide +kernel
theorem dX9_init_53 : decode cX9_init 53 = .ok (.aload_n 0, 1) := by decide +kernel
theorem dX9_init_54 : decode cX9_init 54 = .ok (.bipush 6, 2) := by decide +kernel
theorem dX9_init_56 : decode cX9_init 56 = .ok (.newarray .int, 2) := by decide +kernel
theorem dX9_init_58 : decode cX9_init 58 = .ok (.putfield 28, 3) := by decide +kernel
theorem dX9_init_61 : decode cX9_init 61 = .ok (.aload_n 0, 1) := by decide +kernel
theorem dX9_init_62 : decode cX9_init 62 = .ok (.bipush 24, 2) := by decide +kernel
theorem dX9_init_64 : decode cX9_init 64 = .ok (.newarray .int, 2) := by decide +kernel
theorem dX9_init_66 : decode cX9_init 66 = .ok (.putfield 31, 3) := by decide +kernel
theorem dX9_init_69 : decode cX9_init 69 = .ok (.aload_n 0, 1) := by decide +kernel
theorem dX9_init_70 : decode cX9_init 70 = .ok (.bipush 8, 2) := by decide +kernel
theorem dX9_init_72 : decode cX9_init 72 = .ok (.newarray .int, 2) := by decide +kernel
theorem dX9_init_74 : decode cX9_init 74 = .ok (.putfield 34, 3) := by decide +kernel
theorem dX9_init_77 : decode cX9_init 77 = .ok (.aload_n 0, 1) := by decide +kernel
theorem dX9_init_78 : decode cX9_init 78 = .ok (.bipush 40, 2) := by decide +kernel
theorem dX9_init_80 : decode cX9_init 80 = .ok (.newarray .int, 2) := by decide +kernel
theorem dX9_init_82 : decode cX9_init 82 = .ok (.putfield 37, 3) := by decide +kernel
theorem dX9_init_85 : decode cX9_init 85 = .ok (.aload_n 0, 1) := by decide +kernel
theorem dX9_init_86 : decode cX9_init 86 = .ok (.bipush 40, 2) := by decide +kernel
theorem dX9_init_88 : decode cX9_init 88 = .ok (.newarray .int, 2) := by decide +kernel
theorem dX9_init_90 : decode cX9_init 90 = .ok (.putfield 40, 3) := by decide +kernel
theorem dX9_init_93 : decode cX9_init 93 = .ok (.aload_n 0, 1) := by decide +kernel
theorem dX9_init_94 : decode cX9_init 94 = .ok (.bipush 40, 2) := by decide +kernel
theorem dX9_init_96 : decode cX9_init 96 = .ok (.newarray .int, 2) := by decide +kernel
theorem dX9_init_98 : decode cX9_init 98 = .ok (.putfield 43, 3) := by decide +kernel
theorem dX9_init_101 : decode cX9_init 101 = .ok (.aload_n 0, 1) := by decide +kernel
theorem dX9_init_102 : decode cX9_init 102 = .ok (.sipush 320, 3) := by decide +kernel
theorem dX9_init_105 : decode cX9_init 105 = .ok (.newarray .int, 2) := by decide +kernel
theorem dX9_init_107 : decode cX9_init 107 = .ok (.putfield 46, 3) := by decide +kernel
theorem dX9_init_110 : decode cX9_init 110 = .ok (.aload_n 0, 1) := by decide +kernel
theorem dX9_init_111 : decode cX9_init 111 = .ok (.bipush 6, 2) := by decide +kernel
theorem dX9_init_113 : decode cX9_init 113 = .ok (.newarray .int, 2) := by decide +kernel
theorem dX9_init_115 : decode cX9_init 115 = .ok (.putfield 49, 3) := by decide +kernel
theorem dX9_init_118 : decode cX9_init 118 = .ok (.aload_n 0, 1) := by decide +kernel
theorem dX9_init_119 : decode cX9_init 119 = .ok (.bipush 40, 2) := by decide +kernel
theorem dX9_init_121 : decode cX9_init 121 = .ok (.newarray .int, 2) := by decide +kernel
theorem dX9_init_123 : decode cX9_init 123 = .ok (.putfield 52, 3) := by decide +kernel
theorem dX9_init_126 : decode cX9_init 126 = .ok (.aload_n 0, 1) := by decide +kernel
theorem dX9_init_127 : decode cX9_init 127 = .ok (.bipush 6, 2) := by decide +kernel
theorem dX9_init_129 : decode cX9_init 129 = .ok (.newarray .int, 2) := by decide +kernel
theorem dX9_init_131 : decode cX9_init 131 = .ok (.putfield 55, 3) := by decide +kernel
theorem dX9_init_134 : decode cX9_init 134 = .ok (.aload_n 0, 1) := by decide +kernel
theorem dX9_init_135 : decode cX9_init 135 = .ok (.bipush 7, 2) := by decide +kernel
theorem dX9_init_137 : decode cX9_init 137 = .ok (.newarray .int, 2) := by decide +kernel
theorem dX9_init_139 : decode cX9_init 139 = .ok (.putfield 58, 3) := by decide +kernel
theorem dX9_init_142 : decode cX9_init 142 = .ok (.aload_n 0, 1) := by decide +kernel
theorem dX9_init_143 : decode cX9_init 143 = .ok (.bipush 7, 2) := by decide +kernel
theorem dX9_init_145 : decode cX9_init 145 = .ok (.newarray .int, 2) := by decide +kernel
theorem dX9_init_147 : decode cX9_init 147 = .ok (.putfield 61, 3) := by decide +kernel
theorem dX9_init_150 : decode cX9_init 150 = .ok (.aload_n 0, 1) := by decide +kernel
theorem dX9_init_151 : decode cX9_init 151 = .ok (.sipush 256, 3) := by decide +kernel
theorem dX9_init_154 : decode cX9_init 154 = .ok (.newarray .boolean, 2) := by decide +kernel
theorem dX9_init_156 : decode cX9_init 156 = .ok (.putfield 64, 3) := by decide +kernel
theorem dX9_init_159 : decode cX9_init 159 = .ok (.aload_n 0, 1) := by decide +kernel
theorem dX9_init_160 : decode cX9_init 160 = .ok (.sipush 256, 3) := by decide +kernel
theorem dX9_init_163 : decode cX9_init 163 = .ok (.newarray .int, 2) := by decide +kernel
theorem dX9_init_165 : decode cX9_init 165 = .ok (.putfield 68, 3) := by decide +kernel
theorem dX9_init_168 : decode cX9_init 168 = .ok (.aload_n 0, 1) := by decide +kernel
theorem dX9_init_169 : decode cX9_init 169 = .ok (.bipush 7, 2) := by decide +kernel
theorem dX9_init_171 : decode cX9_init 171 = .ok (.newarray .int, 2) := by decide +kernel
theorem dX9_init_173 : decode cX9_init 173 = .ok (.putfield 71, 3) := by decide +kernel
theorem dX9_init_176 : decode cX9_init 176 = .ok (.aload_n 0, 1) := by decide +kernel
theorem dX9_init_177 : decode cX9_init 177 = .ok (.bipush 7, 2) := by decide +kernel
theorem dX9_init_179 : decode cX9_init 179 = .ok (.newarray .int, 2) := by decide +kernel
theorem dX9_init_181 : decode cX9_init 181 = .ok (.putfield 74, 3) := by decide +kernel
theorem dX9_init_184 : decode cX9_init 184 = .ok (.aload_n 0, 1) := by decide +kernel
theorem dX9_init_185 : decode cX9_init 185 = .ok (.bipush 7, 2) := by decide +kernel
theorem dX9_init_187 : decode cX9_init 187 = .ok (.newarray .int, 2) := by decide +kernel
theorem dX9_init_189 : decode cX9_init 189 = .ok (.putfield 77, 3) := by decide +kernel
theorem dX9_init_192 : decode cX9_init 192 = .ok (.aload_n 0, 1) := by decide +kernel
theorem dX9_init_193 : decode cX9_init 193 = .ok (.bipush 6, 2) := by decide +kernel
theorem dX9_init_195 : decode cX9_init 195 = .ok (.newarray .int, 2) := by decide +kernel
theorem dX9_init_197 : decode cX9_init 197 = .ok (.putfield 80, 3) := by decide +kernel
theorem dX9_init_200 : decode cX9_init 200 = .ok (.aload_n 0, 1) := by decide +kernel
theorem dX9_init_201 : decode cX9_init 201 = .ok (.iconst 3, 1) := by decide +kernel
theorem dX9_init_202 : decode cX9_init 202 = .ok (.newarray .boolean, 2) := by decide +kernel
theorem dX9_init_204 : decode cX9_init 204 = .ok (.putfield 83, 3) := by decide +kernel
theorem dX9_init_207 : decode cX9_init 207 = .ok (.aload_n 0, 1) := by decide +kernel
theorem dX9_init_208 : decode cX9_init 208 = .ok (.sipush 1464, 3) := by decide +kernel
theorem dX9_init_211 : decode cX9_init 211 = .ok (.newarray .int, 2) := by decide +kernel
theorem dX9_init_213 : decode cX9_init 213 = .ok (.putfield 86, 3) := by decide +kernel
theorem dX9_init_216 : decode cX9_init 216 = .ok (.iconst 0, 1) := by decide +kernel
theorem dX9_init_217 : decode cX9_init 217 = .ok (.istore_n 1, 1) := by decide +kernel
theorem dX9_init_218 : decode cX9_init 218 = .ok (.iload_n 1, 1) := by decide +kernel
theorem dX9_init_219 : decode cX9_init 219 = .ok (.bipush 6, 2) := by decide +kernel
theorem dX9_init_221 : decode cX9_init 221 = .ok (.if_icmp .ge 16, 3) := by decide +kernel
theorem dX9_init_224 : decode cX9_init 224 = .ok (.aload_n 0, 1) := by decide +kernel
theorem dX9_init_225 : decode cX9_init 225 = .ok (.getfield 7, 3) := by decide +kernel
theorem dX9_init_228 : decode cX9_init 228 = .ok (.iload_n 1, 1) := by decide +kernel
theorem dX9_init_229 : decode cX9_init 229 = .ok (.iconst (-1), 1) := by decide +kernel
theorem dX9_init_230 : decode cX9_init 230 = .ok (.iastore, 1) := by decide +kernel
theorem dX9_init_231 : decode cX9_init 231 = .ok (.iinc 1 1, 3) := by decide +kernel
theorem dX9_init_234 : decode cX9_init 234 = .ok (.goto (-16), 3) := by decide +kernel
theorem dX9_init_237 : decode cX9_init 237 = .ok (.iconst 0, 1) := by decide +kernel
theorem dX9_init_238 : decode cX9_init 238 = .ok (.istore_n 1, 1) := by decide +kernel
theorem dX9_init_239 : decode cX9_init 239 = .ok (.iload_n 1, 1) := by decide +kernel
theorem dX9_init_240 : decode cX9_init 240 = .ok (.iconst 4, 1) := by decide +kernel
theorem dX9_init_241 : decode cX9_init 241 = .ok (.if_icmp .ge 16, 3) := by decide +kernel
theorem dX9_init_244 : decode cX9_init 244 = .ok (.aload_n 0, 1) := by decide +kernel
theorem dX9_init_245 : decode cX9_init 245 = .ok (.getfield 16, 3) := by decide +kernel
theorem dX9_init_248 : decode cX9_init 248 = .ok (.iload_n 1, 1) := by decide +kernel
theorem dX9_init_249 : decode cX9_init 249 = .ok (.iconst (-1), 1) := by decide +kernel
theorem dX9_init_250 : decode cX9_init 250 = .ok (.iastore, 1) := by decide +kernel
theorem dX9_init_251 : decode cX9_init 251 = .ok (.iinc 1 1, 3) := by decide +kernel
theorem dX9_init_254 : decode cX9_init 254 = .ok (.goto (-15), 3) := by decide +kernel
theorem dX9_init_257 : decode cX9_init 257 = .ok (.return_, 1) := by decide +kernel
theorem dX9_in_0 : decode cX9_in 0 = .ok (.lload_n 0, 1) := by decide +kernel
theorem dX9_in_1 : decode cX9_in 1 = .ok (.lload_n 2, 1) := by decide +kernel
theorem dX9_in_2 : decode cX9_in 2 = .ok (.lcmp, 1) := by decide +kernel
theorem dX9_in_3 : decode cX9_in 3 = .ok (.ifCond .lt 14, 3) := by decide +kernel
theorem dX9_in_6 : decode cX9_in 6 = .ok (.lload_n 0, 1) := by decide +kernel
theorem dX9_in_7 : decode cX9_in 7 = .ok (.lload 4, 2) := by decide +kernel
theorem dX9_in_9 : decode cX9_in 9 = .ok (.lcmp, 1) := by decide +kernel
theorem dX9_in_10 : decode cX9_in 10 = .ok (.ifCond .gt 7, 3) := by decide +kernel
theorem dX9_in_13 : decode cX9_in 13 = .ok (.iconst 1, 1) := by decide +kernel
theorem dX9_in_14 : decode cX9_in 14 = .ok (.goto 4, 3) := by decide +kernel
theorem dX9_in_17 : decode cX9_in 17 = .ok (.iconst 0, 1) := by decide +kernel
theorem dX9_in_18 : decode cX9_in 18 = .ok (.ireturn, 1) := by decide +kernel
theorem dX9_has_0 : decode cX9_has 0 = .ok (.iload_n 0, 1) := by decide +kernel
theorem dX9_has_1 : decode cX9_has 1 = .ok (.iload_n 1, 1) := by decide +kernel
theorem dX9_has_2 : decode cX9_has 2 = .ok (.ishr, 1) := by decide +kernel
theorem dX9_has_3 : decode cX9_has 3 = .ok (.iconst 1, 1) := by decide +kernel
theorem dX9_has_4 : decode cX9_has 4 = .ok (.iand, 1) := by decide +kernel
theorem dX9_has_5 : decode cX9_has 5 = .ok (.iconst 1, 1) := by decide +kernel
theorem dX9_has_6 : decode cX9_has 6 = .ok (.if_icmp .ne 7, 3) := by decide +kernel
theorem dX9_has_9 : decode cX9_has 9 = .ok (.iconst 1, 1) := by decide +kernel
theorem dX9_has_10 : decode cX9_has 10 = .ok (.goto 4, 3) := by decide +kernel
theorem dX9_has_13 : decode cX9_has 13 = .ok (.iconst 0, 1) := by decide +kernel
theorem dX9_has_14 : decode cX9_has 14 = .ok (.ireturn, 1) := by decide +kernel
theorem dX9_ones_0 : decode cX9_ones 0 = .ok (.iconst 0, 1) := by decide +kernel
theorem dX9_ones_1 : decode cX9_ones 1 = .ok (.istore_n 1, 1) := by decide +kernel
theorem dX9_ones_2 : decode cX9_ones 2 = .ok (.iload_n 0, 1) := by decide +kernel
theorem dX9_ones_3 : decode cX9_ones 3 = .ok (.istore_n 2, 1) := by decide +kernel
theorem dX9_ones_4 : decode cX9_ones 4 = .ok (.iload_n 2, 1) := by decide +kernel
theorem dX9_ones_5 : decode cX9_ones 5 = .ok (.ifCond .eq 15, 3) := by decide +kernel
theorem dX9_ones_8 : decode cX9_ones 8 = .ok (.iinc 1 1, 3) := by decide +kernel
theorem dX9_ones_11 : decode cX9_ones 11 = .ok (.iload_n 2, 1) := by decide +kernel
theorem dX9_ones_12 : decode cX9_ones 12 = .ok (.iload_n 2, 1) := by decide +kernel
theorem dX9_ones_13 : decode cX9_ones 13 = .ok (.iconst 1, 1) := by decide +kernel
theorem dX9_ones_14 : decode cX9_ones 14 = .ok (.isub, 1) := by decide +kernel
theorem dX9_ones_15 : decode cX9_ones 15 = .ok (.iand, 1) := by decide +kernel
theorem dX9_ones_16 : decode cX9_ones 16 = .ok (.istore_n 2, 1) := by decide +kernel
theorem dX9_ones_17 : decode cX9_ones 17 = .ok (.goto (-13), 3) := by decide +kernel
theorem dX9_ones_20 : decode cX9_ones 20 = .ok (.iload_n 1, 1) := by decide +kernel
theorem dX9_ones_21 : decode cX9_ones 21 = .ok (.ireturn, 1) := by decide +kernel
theorem dX9_find_0 : decode cX9_find 0 = .ok (.aload_n 0, 1) := by decide +kernel
theorem dX9_find_1 : decode cX9_find 1 = .ok (.iload_n 1, 1) := by decide +kernel
theorem dX9_find_2 : decode cX9_find 2 = .ok (.putfield 89, 3) := by decide +kernel
theorem dX9_find_5 : decode cX9_find 5 = .ok (.aload_n 0, 1) := by decide +kernel
theorem dX9_find_6 : decode cX9_find 6 = .ok (.getfield 49, 3) := by decide +kernel
theorem dX9_find_9 : decode cX9_find 9 = .ok (.iload_n 1, 1) := by decide +kernel
theorem dX9_find_10 : decode cX9_find 10 = .ok (.dup2, 1) := by decide +kernel
theorem dX9_find_11 : decode cX9_find 11 = .ok (.iaload, 1) := by decide +kernel
theorem dX9_find_12 : decode cX9_find 12 = .ok (.iconst 1, 1) := by decide +kernel
theorem dX9_find_13 : decode cX9_find 13 = .ok (.iadd, 1) := by decide +kernel
theorem dX9_find_14 : decode cX9_find 14 = .ok (.iastore, 1) := by decide +kernel
theorem dX9_find_15 : decode cX9_find 15 = .ok (.bipush (-3), 2) := by decide +kernel
theorem dX9_find_17 : decode cX9_find 17 = .ok (.ireturn, 1) := by decide +kernel
theorem dX9_say_0 : decode cX9_say 0 = .ok (.aload_n 0, 1) := by decide +kernel
theorem dX9_say_1 : decode cX9_say 1 = .ok (.iload_n 2, 1) := by decide +kernel
theorem dX9_say_2 : decode cX9_say 2 = .ok (.putfield 93, 3) := by decide +kernel
theorem dX9_say_5 : decode cX9_say 5 = .ok (.iload_n 1, 1) := by decide +kernel
theorem dX9_say_6 : decode cX9_say 6 = .ok (.ireturn, 1) := by decide +kernel
set_option maxRecDepth 20000 in
theorem ggX9_isRow_X9_in : GoodIn wsX9_isRow wsX9_in := goodIn_r _ [5] (by decide +kernel) (by decide +kernel)
set_option maxRecDepth 20000 in
theorem gX9_isRow_X9_in : GoodIn wsX9_isRow (va_wsS RX9 98 yX9_in wsX9_in) := goodIn_app (goodIn_of _ (by decide +kernel)) ggX9_isRow_X9_in
theorem dX9_isRow_0 : decode cX9_isRow 0 = .ok (.iload_n 0, 1) := by decide +kernel
theorem dX9_isRow_1 : decode cX9_isRow 1 = .ok (.i2l, 1) := by decide +kernel
theorem dX9_isRow_2 : decode cX9_isRow 2 = .ok (.lconst 0, 1) := by decide +kernel
theorem dX9_isRow_3 : decode cX9_isRow 3 = .ok (.ldc2_w 96, 3) := by decide +kernel
theorem dX9_isRow_6 : decode cX9_isRow 6 = .ok (.invokestatic 98, 3) := by decide +kernel
theorem dX9_isRow_9 : decode cX9_isRow 9 = .ok (.ireturn, 1) := by decide +kernel
set_option maxRecDepth 20000 in
theorem ggX9_isText_X9_in : GoodIn wsX9_isText wsX9_in := goodIn_r _ [5] (by decide +kernel) (by decide +kernel)
set_option maxRecDepth 20000 in
theorem gX9_isText_X9_in : GoodIn wsX9_isText (va_wsS RX9 98 yX9_in wsX9_in) := goodIn_app (goodIn_of _ (by decide +kernel)) ggX9_isText_X9_in
theorem dX9_isText_0 : decode cX9_isText 0 = .ok (.iload_n 0, 1) := by decide +kernel
theorem dX9_isText_1 : decode cX9_isText 1 = .ok (.i2l, 1) := by decide +kernel
theorem dX9_isText_2 : decode cX9_isText 2 = .ok (.lconst 0, 1) := by decide +kernel
theorem dX9_isText_3 : decode cX9_isText 3 = .ok (.ldc2_w 102, 3) := by decide +kernel
theorem dX9_isText_6 : decode cX9_isText 6 = .ok (.invokestatic 98, 3) := by decide +kernel
theorem dX9_isText_9 : decode cX9_isText 9 = .ok (.ireturn, 1) := by decide +kernel
set_option maxRecDepth 20000 in
theorem ggX9_row_X9_isRow : GoodIn wsX9_row wsX9_isRow := goodIn_r _ [6, 7, 8, 9, 5, 10] (by decide +kernel) (by decide +kernel)
set_option maxRecDepth 20000 in
theorem gX9_row_X9_isRow : GoodIn wsX9_row (va_wsS RX9 104 yX9_isRow wsX9_isRow) := goodIn_app (goodIn_of _ (by decide +kernel)) ggX9_row_X9_isRow
set_option maxRecDepth 20000 in
theorem ggX9_row_X9_find : GoodIn wsX9_row wsX9_find := goodIn_r _ [14, 15, 16, 17, 18, 19, 20, 21, 22, 23, 24, 25, 26, 27, 28, 29, 30, 31, 32, 33, 34, 35, 36, 37, 38, 39, 40, 41, 42, 43, 44, 45, 46, 47, 48, 49, 50, 51, 52] (by decide +kernel) (by decide +kernel)
set_option maxRecDepth 20000 in
theorem gX9_row_X9_find : GoodIn wsX9_row (wsV RX9 108 RX9 yX9_find wsX9_find) := goodIn_app (goodIn_of _ (by decide +kernel)) ggX9_row_X9_find
theorem dX9_row_0 : decode cX9_row 0 = .ok (.iload_n 1, 1) := by decide +kernel
theorem dX9_row_1 : decode cX9_row 1 = .ok (.invokestatic 104, 3) := by decide +kernel
theorem dX9_row_4 : decode cX9_row 4 = .ok (.ifCond .eq 9, 3) := by decide +kernel
theorem dX9_row_7 : decode cX9_row 7 = .ok (.iload_n 2, 1) := by decide +kernel
theorem dX9_row_8 : decode cX9_row 8 = .ok (.bipush 40, 2) := by decide +kernel
theorem dX9_row_10 : decode cX9_row 10 = .ok (.if_icmp .le 5, 3) := by decide +kernel
theorem dX9_row_13 : decode cX9_row 13 = .ok (.iconst (-1), 1) := by decide +kernel
theorem dX9_row_14 : decode cX9_row 14 = .ok (.ireturn, 1) := by decide +kernel
theorem dX9_row_15 : decode cX9_row 15 = .ok (.iload_n 2, 1) := by decide +kernel
theorem dX9_row_16 : decode cX9_row 16 = .ok (.ifCond .ge 9, 3) := by decide +kernel
theorem dX9_row_19 : decode cX9_row 19 = .ok (.aload_n 0, 1) := by decide +kernel
theorem dX9_row_20 : decode cX9_row 20 = .ok (.iconst 5, 1) := by decide +kernel
theorem dX9_row_21 : decode cX9_row 21 = .ok (.invokevirtual 108, 3) := by decide +kernel
theorem dX9_row_24 : decode cX9_row 24 = .ok (.ireturn, 1) := by decide +kernel
theorem dX9_row_25 : decode cX9_row 25 = .ok (.aload_n 0, 1) := by decide +kernel
theorem dX9_row_26 : decode cX9_row 26 = .ok (.getfield 7, 3) := by decide +kernel
theorem dX9_row_29 : decode cX9_row 29 = .ok (.iload_n 1, 1) := by decide +kernel
theorem dX9_row_30 : decode cX9_row 30 = .ok (.iload_n 2, 1) := by decide +kernel
theorem dX9_row_31 : decode cX9_row 31 = .ok (.iastore, 1) := by decide +kernel
theorem dX9_row_32 : decode cX9_row 32 = .ok (.iconst 0, 1) := by decide +kernel
theorem dX9_row_33 : decode cX9_row 33 = .ok (.istore_n 3, 1) := by decide +kernel
theorem dX9_row_34 : decode cX9_row 34 = .ok (.iload_n 3, 1) := by decide +kernel
theorem dX9_row_35 : decode cX9_row 35 = .ok (.bipush 40, 2) := by decide +kernel
theorem dX9_row_37 : decode cX9_row 37 = .ok (.if_icmp .ge 21, 3) := by decide +kernel
theorem dX9_row_40 : decode cX9_row 40 = .ok (.aload_n 0, 1) := by decide +kernel
theorem dX9_row_41 : decode cX9_row 41 = .ok (.getfield 13, 3) := by decide +kernel
theorem dX9_row_44 : decode cX9_row 44 = .ok (.bipush 40, 2) := by decide +kernel
theorem dX9_row_46 : decode cX9_row 46 = .ok (.iload_n 1, 1) := by decide +kernel
theorem dX9_row_47 : decode cX9_row 47 = .ok (.imul, 1) := by decide +kernel
theorem dX9_row_48 : decode cX9_row 48 = .ok (.iload_n 3, 1) := by decide +kernel
theorem dX9_row_49 : decode cX9_row 49 = .ok (.iadd, 1) := by decide +kernel
theorem dX9_row_50 : decode cX9_row 50 = .ok (.iconst 0, 1) := by decide +kernel
theorem dX9_row_51 : decode cX9_row 51 = .ok (.iastore, 1) := by decide +kernel
theorem dX9_row_52 : decode cX9_row 52 = .ok (.iinc 3 1, 3) := by decide +kernel
theorem dX9_row_55 : decode cX9_row 55 = .ok (.goto (-21), 3) := by decide +kernel
theorem dX9_row_58 : decode cX9_row 58 = .ok (.iload_n 2, 1) := by decide +kernel
theorem dX9_row_59 : decode cX9_row 59 = .ok (.ireturn, 1) := by decide +kernel
set_option maxRecDepth 20000 in
theorem ggX9_lacksPlace_X9_isRow : GoodIn wsX9_lacksPlace wsX9_isRow := goodIn_r _ [5, 6, 7, 8, 4, 9] (by decide +kernel) (by decide +kernel)
set_option maxRecDepth 20000 in
theorem gX9_lacksPlace_X9_isRow : GoodIn wsX9_lacksPlace (va_wsS RX9 104 yX9_isRow wsX9_isRow) := goodIn_app (goodIn_of _ (by decide +kernel)) ggX9_lacksPlace_X9_isRow
set_option maxRecDepth 20000 in
theorem ggX9_lacksPlace_X9_find : GoodIn wsX9_lacksPlace wsX9_find := goodIn_r _ [13, 14, 15, 16, 17, 18, 19, 20, 21, 22, 23, 24, 25, 26, 27, 28, 29, 30, 31, 32, 33, 34, 35, 36, 37, 38, 39, 40, 41, 42, 43, 44, 45, 46, 47, 48, 49, 50, 51] (by decide +kernel) (by decide +kernel)
set_option maxRecDepth 20000 in
theorem gX9_lacksPlace_X9_find : GoodIn wsX9_lacksPlace (wsV RX9 108 RX9 yX9_find wsX9_find) := goodIn_app (goodIn_of _ (by decide +kernel)) ggX9_lacksPlace_X9_find
set_option maxRecDepth 20000 in
theorem ggX9_lacksPlace_X9_in : GoodIn wsX9_lacksPlace wsX9_in := goodIn_r _ [9] (by decide +kernel) (by decide +kernel)
set_option maxRecDepth 20000 in
theorem gX9_lacksPlace_X9_in : GoodIn wsX9_lacksPlace (va_wsS RX9 98 yX9_in wsX9_in) := goodIn_app (goodIn_of _ (by decide +kernel)) ggX9_lacksPlace_X9_in
theorem dX9_lacksPlace_0 : decode cX9_lacksPlace 0 = .ok (.iload_n 1, 1) := by decide +kernel
theorem dX9_lacksPlace_1 : decode cX9_lacksPlace 1 = .ok (.invokestatic 104, 3) := by decide +kernel
theorem dX9_lacksPlace_4 : decode cX9_lacksPlace 4 = .ok (.ifCond .ne 5, 3) := by decide +kernel
theorem dX9_lacksPlace_7 : decode cX9_lacksPlace 7 = .ok (.iconst (-1), 1) := by decide +kernel
theorem dX9_lacksPlace_8 : decode cX9_lacksPlace 8 = .ok (.ireturn, 1) := by decide +kernel
theorem dX9_lacksPlace_9 : decode cX9_lacksPlace 9 = .ok (.aload_n 0, 1) := by decide +kernel
theorem dX9_lacksPlace_10 : decode cX9_lacksPlace 10 = .ok (.getfield 7, 3) := by decide +kernel
theorem dX9_lacksPlace_13 : decode cX9_lacksPlace 13 = .ok (.iload_n 1, 1) := by decide +kernel
theorem dX9_lacksPlace_14 : decode cX9_lacksPlace 14 = .ok (.iaload, 1) := by decide +kernel
theorem dX9_lacksPlace_15 : decode cX9_lacksPlace 15 = .ok (.ifCond .ge 9, 3) := by decide +kernel
theorem dX9_lacksPlace_18 : decode cX9_lacksPlace 18 = .ok (.aload_n 0, 1) := by decide +kernel
theorem dX9_lacksPlace_19 : decode cX9_lacksPlace 19 = .ok (.iconst 1, 1) := by decide +kernel
theorem dX9_lacksPlace_20 : decode cX9_lacksPlace 20 = .ok (.invokevirtual 108, 3) := by decide +kernel
theorem dX9_lacksPlace_23 : decode cX9_lacksPlace 23 = .ok (.ireturn, 1) := by decide +kernel
theorem dX9_lacksPlace_24 : decode cX9_lacksPlace 24 = .ok (.iload_n 2, 1) := by decide +kernel
theorem dX9_lacksPlace_25 : decode cX9_lacksPlace 25 = .ok (.i2l, 1) := by decide +kernel
theorem dX9_lacksPlace_26 : decode cX9_lacksPlace 26 = .ok (.lconst 0, 1) := by decide +kernel
theorem dX9_lacksPlace_27 : decode cX9_lacksPlace 27 = .ok (.aload_n 0, 1) := by decide +kernel
theorem dX9_lacksPlace_28 : decode cX9_lacksPlace 28 = .ok (.getfield 7, 3) := by decide +kernel
theorem dX9_lacksPlace_31 : decode cX9_lacksPlace 31 = .ok (.iload_n 1, 1) := by decide +kernel
theorem dX9_lacksPlace_32 : decode cX9_lacksPlace 32 = .ok (.iaload, 1) := by decide +kernel
theorem dX9_lacksPlace_33 : decode cX9_lacksPlace 33 = .ok (.iconst 1, 1) := by decide +kernel
theorem dX9_lacksPlace_34 : decode cX9_lacksPlace 34 = .ok (.isub, 1) := by decide +kernel
theorem dX9_lacksPlace_35 : decode cX9_lacksPlace 35 = .ok (.i2l, 1) := by decide +kernel
theorem dX9_lacksPlace_36 : decode cX9_lacksPlace 36 = .ok (.invokestatic 98, 3) := by decide +kernel
theorem dX9_lacksPlace_39 : decode cX9_lacksPlace 39 = .ok (.ifCond .eq 7, 3) := by decide +kernel
theorem dX9_lacksPlace_42 : decode cX9_lacksPlace 42 = .ok (.iconst 0, 1) := by decide +kernel
theorem dX9_lacksPlace_43 : decode cX9_lacksPlace 43 = .ok (.goto 8, 3) := by decide +kernel
theorem dX9_lacksPlace_46 : decode cX9_lacksPlace 46 = .ok (.aload_n 0, 1) := by decide +kernel
theorem dX9_lacksPlace_47 : decode cX9_lacksPlace 47 = .ok (.iconst 2, 1) := by decide +kernel
theorem dX9_lacksPlace_48 : decode cX9_lacksPlace 48 = .ok (.invokevirtual 108, 3) := by decide +kernel
theorem dX9_lacksPlace_51 : decode cX9_lacksPlace 51 = .ok (.ireturn, 1) := by decide +kernel
set_option maxRecDepth 20000 in
theorem ggX9_lay_X9_lacksPlace : GoodIn wsX9_lay wsX9_lacksPlace := goodIn_r _ [6, 7, 8, 9, 5, 10, 11, 12, 13, 14, 15, 16, 17, 18, 19, 20, 26, 27, 28, 29, 30, 31, 32, 33, 34, 35, 36, 37, 38, 39, 40, 41, 42, 43, 44, 45, 46, 47, 48, 49, 50, 51, 52, 53, 54, 55, 56, 57, 58, 59, 60, 61] (by decide +kernel) (by decide +kernel)
set_option maxRecDepth 20000 in
theorem gX9_lay_X9_lacksPlace : GoodIn wsX9_lay (wsV RX9 112 RX9 yX9_lacksPlace wsX9_lacksPlace) := goodIn_app (goodIn_of _ (by decide +kernel)) ggX9_lay_X9_lacksPlace
set_option maxRecDepth 20000 in
theorem ggX9_lay_X9_say : GoodIn wsX9_lay wsX9_say := goodIn_r _ [24, 25, 26, 27, 28, 29, 30, 31, 32, 33, 34, 35, 36, 37, 38, 39, 40, 41, 42, 43, 44, 45, 46, 47, 48, 49, 50, 51, 52, 53, 54, 55, 56, 57, 58, 59, 60, 61] (by decide +kernel) (by decide +kernel)
set_option maxRecDepth 20000 in
theorem gX9_lay_X9_say : GoodIn wsX9_lay (wsV RX9 116 RX9 yX9_say wsX9_say) := goodIn_app (goodIn_of _ (by decide +kernel)) ggX9_lay_X9_say
theorem dX9_lay_0 : decode cX9_lay 0 = .ok (.aload_n 0, 1) := by decide +kernel
theorem dX9_lay_1 : decode cX9_lay 1 = .ok (.iload_n 1, 1) := by decide +kernel
theorem dX9_lay_2 : decode cX9_lay 2 = .ok (.iload_n 2, 1) := by decide +kernel
theorem dX9_lay_3 : decode cX9_lay 3 = .ok (.invokevirtual 112, 3) := by decide +kernel
theorem dX9_lay_6 : decode cX9_lay 6 = .ok (.istore 4, 2) := by decide +kernel
theorem dX9_lay_8 : decode cX9_lay 8 = .ok (.iload 4, 2) := by decide +kernel
theorem dX9_lay_10 : decode cX9_lay 10 = .ok (.ifCond .ge 6, 3) := by decide +kernel
theorem dX9_lay_13 : decode cX9_lay 13 = .ok (.iload 4, 2) := by decide +kernel
theorem dX9_lay_15 : decode cX9_lay 15 = .ok (.ireturn, 1) := by decide +kernel
theorem dX9_lay_16 : decode cX9_lay 16 = .ok (.aload_n 0, 1) := by decide +kernel
theorem dX9_lay_17 : decode cX9_lay 17 = .ok (.getfield 13, 3) := by decide +kernel
theorem dX9_lay_20 : decode cX9_lay 20 = .ok (.bipush 40, 2) := by decide +kernel
theorem dX9_lay_22 : decode cX9_lay 22 = .ok (.iload_n 1, 1) := by decide +kernel
theorem dX9_lay_23 : decode cX9_lay 23 = .ok (.imul, 1) := by decide +kernel
theorem dX9_lay_24 : decode cX9_lay 24 = .ok (.iload_n 2, 1) := by decide +kernel
theorem dX9_lay_25 : decode cX9_lay 25 = .ok (.iadd, 1) := by decide +kernel
theorem dX9_lay_26 : decode cX9_lay 26 = .ok (.iaload, 1) := by decide +kernel
theorem dX9_lay_27 : decode cX9_lay 27 = .ok (.istore 5, 2) := by decide +kernel
theorem dX9_lay_29 : decode cX9_lay 29 = .ok (.aload_n 0, 1) := by decide +kernel
theorem dX9_lay_30 : decode cX9_lay 30 = .ok (.getfield 13, 3) := by decide +kernel
theorem dX9_lay_33 : decode cX9_lay 33 = .ok (.bipush 40, 2) := by decide +kernel
theorem dX9_lay_35 : decode cX9_lay 35 = .ok (.iload_n 1, 1) := by decide +kernel
theorem dX9_lay_36 : decode cX9_lay 36 = .ok (.imul, 1) := by decide +kernel
theorem dX9_lay_37 : decode cX9_lay 37 = .ok (.iload_n 2, 1) := by decide +kernel
theorem dX9_lay_38 : decode cX9_lay 38 = .ok (.iadd, 1) := by decide +kernel
theorem dX9_lay_39 : decode cX9_lay 39 = .ok (.iload_n 3, 1) := by decide +kernel
theorem dX9_lay_40 : decode cX9_lay 40 = .ok (.iastore, 1) := by decide +kernel
theorem dX9_lay_41 : decode cX9_lay 41 = .ok (.aload_n 0, 1) := by decide +kernel
theorem dX9_lay_42 : decode cX9_lay 42 = .ok (.iconst 1, 1) := by decide +kernel
theorem dX9_lay_43 : decode cX9_lay 43 = .ok (.iload 5, 2) := by decide +kernel
theorem dX9_lay_45 : decode cX9_lay 45 = .ok (.invokevirtual 116, 3) := by decide +kernel
theorem dX9_lay_48 : decode cX9_lay 48 = .ok (.ireturn, 1) := by decide +kernel
set_option maxRecDepth 20000 in
theorem ggX9_at_X9_lacksPlace : GoodIn wsX9_at wsX9_lacksPlace := goodIn_r _ [6, 7, 8, 9, 5, 10, 11, 12, 13, 14, 15, 16, 17, 18, 19, 20, 26, 27, 28, 29, 30, 31, 32, 33, 34, 35, 36, 37, 38, 39, 40, 41, 42, 43, 44, 45, 46, 47, 48, 49, 50, 51, 52, 53, 54, 55, 56, 57, 58, 59, 60, 61] (by decide +kernel) (by decide +kernel)
set_option maxRecDepth 20000 in
theorem gX9_at_X9_lacksPlace : GoodIn wsX9_at (wsV RX9 112 RX9 yX9_lacksPlace wsX9_lacksPlace) := goodIn_app (goodIn_of _ (by decide +kernel)) ggX9_at_X9_lacksPlace
set_option maxRecDepth 20000 in
theorem ggX9_at_X9_say : GoodIn wsX9_at wsX9_say := goodIn_r _ [24, 25, 26, 27, 28, 29, 30, 31, 32, 33, 34, 35, 36, 37, 38, 39, 40, 41, 42, 43, 44, 45, 46, 47, 48, 49, 50, 51, 52, 53, 54, 55, 56, 57, 58, 59, 60, 61] (by decide +kernel) (by decide +kernel)
set_option maxRecDepth 20000 in
theorem gX9_at_X9_say : GoodIn wsX9_at (wsV RX9 116 RX9 yX9_say wsX9_say) := goodIn_app (goodIn_of _ (by decide +kernel)) ggX9_at_X9_say
theorem dX9_at_0 : decode cX9_at 0 = .ok (.aload_n 0, 1) := by decide +kernel
theorem dX9_at_1 : decode cX9_at 1 = .ok (.iload_n 1, 1) := by decide +kernel
theorem dX9_at_2 : decode cX9_at 2 = .ok (.iload_n 2, 1) := by decide +kernel
theorem dX9_at_3 : decode cX9_at 3 = .ok (.invokevirtual 112, 3) := by decide +kernel
theorem dX9_at_6 : decode cX9_at 6 = .ok (.istore_n 3, 1) := by decide +kernel
theorem dX9_at_7 : decode cX9_at 7 = .ok (.iload_n 3, 1) := by decide +kernel
theorem dX9_at_8 : decode cX9_at 8 = .ok (.ifCond .ge 7, 3) := by decide +kernel
theorem dX9_at_11 : decode cX9_at 11 = .ok (.iload_n 3, 1) := by decide +kernel
theorem dX9_at_12 : decode cX9_at 12 = .ok (.goto 19, 3) := by decide +kernel
theorem dX9_at_15 : decode cX9_at 15 = .ok (.aload_n 0, 1) := by decide +kernel
theorem dX9_at_16 : decode cX9_at 16 = .ok (.iconst 1, 1) := by decide +kernel
theorem dX9_at_17 : decode cX9_at 17 = .ok (.aload_n 0, 1) := by decide +kernel
theorem dX9_at_18 : decode cX9_at 18 = .ok (.getfield 13, 3) := by decide +kernel
theorem dX9_at_21 : decode cX9_at 21 = .ok (.bipush 40, 2) := by decide +kernel
theorem dX9_at_23 : decode cX9_at 23 = .ok (.iload_n 1, 1) := by decide +kernel
theorem dX9_at_24 : decode cX9_at 24 = .ok (.imul, 1) := by decide +kernel
theorem dX9_at_25 : decode cX9_at 25 = .ok (.iload_n 2, 1) := by decide +kernel
theorem dX9_at_26 : decode cX9_at 26 = .ok (.iadd, 1) := by decide +kernel
theorem dX9_at_27 : decode cX9_at 27 = .ok (.iaload, 1) := by decide +kernel
theorem dX9_at_28 : decode cX9_at 28 = .ok (.invokevirtual 116, 3) := by decide +kernel
theorem dX9_at_31 : decode cX9_at 31 = .ok (.ireturn, 1) := by decide +kernel
set_option maxRecDepth 20000 in
theorem ggX9_tear_X9_isRow : GoodIn wsX9_tear wsX9_isRow := goodIn_r _ [5, 6, 7, 8, 4, 9] (by decide +kernel) (by decide +kernel)
set_option maxRecDepth 20000 in
theorem gX9_tear_X9_isRow : GoodIn wsX9_tear (va_wsS RX9 104 yX9_isRow wsX9_isRow) := goodIn_app (goodIn_of _ (by decide +kernel)) ggX9_tear_X9_isRow
set_option maxRecDepth 20000 in
theorem ggX9_tear_X9_find : GoodIn wsX9_tear wsX9_find := goodIn_r _ [13, 14, 15, 16, 17, 18, 19, 20, 21, 22, 23, 24, 25, 26, 27, 28, 29, 30, 31, 32, 33, 34, 35, 36, 37, 38, 39, 40, 41, 42, 43, 44, 45, 46, 47, 48, 49, 50, 51] (by decide +kernel) (by decide +kernel)
set_option maxRecDepth 20000 in
theorem gX9_tear_X9_find : GoodIn wsX9_tear (wsV RX9 108 RX9 yX9_find wsX9_find) := goodIn_app (goodIn_of _ (by decide +kernel)) ggX9_tear_X9_find
theorem dX9_tear_0 : decode cX9_tear 0 = .ok (.iload_n 1, 1) := by decide +kernel
theorem dX9_tear_1 : decode cX9_tear 1 = .ok (.invokestatic 104, 3) := by decide +kernel
theorem dX9_tear_4 : decode cX9_tear 4 = .ok (.ifCond .ne 5, 3) := by decide +kernel
theorem dX9_tear_7 : decode cX9_tear 7 = .ok (.iconst (-1), 1) := by decide +kernel
theorem dX9_tear_8 : decode cX9_tear 8 = .ok (.ireturn, 1) := by decide +kernel
theorem dX9_tear_9 : decode cX9_tear 9 = .ok (.aload_n 0, 1) := by decide +kernel
theorem dX9_tear_10 : decode cX9_tear 10 = .ok (.getfield 7, 3) := by decide +kernel
theorem dX9_tear_13 : decode cX9_tear 13 = .ok (.iload_n 1, 1) := by decide +kernel
theorem dX9_tear_14 : decode cX9_tear 14 = .ok (.iaload, 1) := by decide +kernel
theorem dX9_tear_15 : decode cX9_tear 15 = .ok (.ifCond .ge 9, 3) := by decide +kernel
theorem dX9_tear_18 : decode cX9_tear 18 = .ok (.aload_n 0, 1) := by decide +kernel
theorem dX9_tear_19 : decode cX9_tear 19 = .ok (.iconst 1, 1) := by decide +kernel
theorem dX9_tear_20 : decode cX9_tear 20 = .ok (.invokevirtual 108, 3) := by decide +kernel
theorem dX9_tear_23 : decode cX9_tear 23 = .ok (.ireturn, 1) := by decide +kernel
theorem dX9_tear_24 : decode cX9_tear 24 = .ok (.aload_n 0, 1) := by decide +kernel
theorem dX9_tear_25 : decode cX9_tear 25 = .ok (.getfield 7, 3) := by decide +kernel
theorem dX9_tear_28 : decode cX9_tear 28 = .ok (.iload_n 1, 1) := by decide +kernel
theorem dX9_tear_29 : decode cX9_tear 29 = .ok (.iconst (-1), 1) := by decide +kernel
theorem dX9_tear_30 : decode cX9_tear 30 = .ok (.iastore, 1) := by decide +kernel
theorem dX9_tear_31 : decode cX9_tear 31 = .ok (.iconst 1, 1) := by decide +kernel
theorem dX9_tear_32 : decode cX9_tear 32 = .ok (.ireturn, 1) := by decide +kernel
set_option maxRecDepth 20000 in
theorem ggX9_copy_X9_isRow : GoodIn wsX9_copy wsX9_isRow := goodIn_r _ [7, 8, 9, 10, 6, 11] (by decide +kernel) (by decide +kernel)
set_option maxRecDepth 20000 in
theorem gX9_copy_X9_isRow : GoodIn wsX9_copy (va_wsS RX9 104 yX9_isRow wsX9_isRow) := goodIn_app (goodIn_of _ (by decide +kernel)) ggX9_copy_X9_isRow
set_option maxRecDepth 20000 in
theorem ggX9_copy_X9_find : GoodIn wsX9_copy wsX9_find := goodIn_r _ [15, 16, 17, 18, 19, 20, 21, 22, 23, 24, 25, 26, 27, 28, 29, 30, 31, 32, 33, 34, 35, 36, 37, 38, 39, 40, 41, 42, 43, 44, 45, 46, 47, 48, 49, 50, 51, 52, 53] (by decide +kernel) (by decide +kernel)
set_option maxRecDepth 20000 in
theorem gX9_copy_X9_find : GoodIn wsX9_copy (wsV RX9 108 RX9 yX9_find wsX9_find) := goodIn_app (goodIn_of _ (by decide +kernel)) ggX9_copy_X9_find
set_option maxRecDepth 20000 in
theorem ggX9_copy_X9_in : GoodIn wsX9_copy wsX9_in := goodIn_r _ [11] (by decide +kernel) (by decide +kernel)
set_option maxRecDepth 20000 in
theorem gX9_copy_X9_in : GoodIn wsX9_copy (va_wsS RX9 98 yX9_in wsX9_in) := goodIn_app (goodIn_of _ (by decide +kernel)) ggX9_copy_X9_in
theorem dX9_copy_0 : decode cX9_copy 0 = .ok (.iload_n 1, 1) := by decide +kernel
theorem dX9_copy_1 : decode cX9_copy 1 = .ok (.invokestatic 104, 3) := by decide +kernel
theorem dX9_copy_4 : decode cX9_copy 4 = .ok (.ifCond .eq 10, 3) := by decide +kernel
theorem dX9_copy_7 : decode cX9_copy 7 = .ok (.iload_n 3, 1) := by decide +kernel
theorem dX9_copy_8 : decode cX9_copy 8 = .ok (.invokestatic 104, 3) := by decide +kernel
theorem dX9_copy_11 : decode cX9_copy 11 = .ok (.ifCond .ne 5, 3) := by decide +kernel
theorem dX9_copy_14 : decode cX9_copy 14 = .ok (.iconst (-1), 1) := by decide +kernel
theorem dX9_copy_15 : decode cX9_copy 15 = .ok (.ireturn, 1) := by decide +kernel
theorem dX9_copy_16 : decode cX9_copy 16 = .ok (.iload 5, 2) := by decide +kernel
theorem dX9_copy_18 : decode cX9_copy 18 = .ok (.ifCond .ge 9, 3) := by decide +kernel
theorem dX9_copy_21 : decode cX9_copy 21 = .ok (.aload_n 0, 1) := by decide +kernel
theorem dX9_copy_22 : decode cX9_copy 22 = .ok (.iconst 5, 1) := by decide +kernel
theorem dX9_copy_23 : decode cX9_copy 23 = .ok (.invokevirtual 108, 3) := by decide +kernel
theorem dX9_copy_26 : decode cX9_copy 26 = .ok (.ireturn, 1) := by decide +kernel
theorem dX9_copy_27 : decode cX9_copy 27 = .ok (.aload_n 0, 1) := by decide +kernel
theorem dX9_copy_28 : decode cX9_copy 28 = .ok (.getfield 7, 3) := by decide +kernel
theorem dX9_copy_31 : decode cX9_copy 31 = .ok (.iload_n 1, 1) := by decide +kernel
theorem dX9_copy_32 : decode cX9_copy 32 = .ok (.iaload, 1) := by decide +kernel
theorem dX9_copy_33 : decode cX9_copy 33 = .ok (.ifCond .lt 12, 3) := by decide +kernel
theorem dX9_copy_36 : decode cX9_copy 36 = .ok (.aload_n 0, 1) := by decide +kernel
theorem dX9_copy_37 : decode cX9_copy 37 = .ok (.getfield 7, 3) := by decide +kernel
theorem dX9_copy_40 : decode cX9_copy 40 = .ok (.iload_n 3, 1) := by decide +kernel
theorem dX9_copy_41 : decode cX9_copy 41 = .ok (.iaload, 1) := by decide +kernel
theorem dX9_copy_42 : decode cX9_copy 42 = .ok (.ifCond .ge 9, 3) := by decide +kernel
theorem dX9_copy_45 : decode cX9_copy 45 = .ok (.aload_n 0, 1) := by decide +kernel
theorem dX9_copy_46 : decode cX9_copy 46 = .ok (.iconst 1, 1) := by decide +kernel
theorem dX9_copy_47 : decode cX9_copy 47 = .ok (.invokevirtual 108, 3) := by decide +kernel
theorem dX9_copy_50 : decode cX9_copy 50 = .ok (.ireturn, 1) := by decide +kernel
theorem dX9_copy_51 : decode cX9_copy 51 = .ok (.iload_n 2, 1) := by decide +kernel
theorem dX9_copy_52 : decode cX9_copy 52 = .ok (.i2l, 1) := by decide +kernel
theorem dX9_copy_53 : decode cX9_copy 53 = .ok (.lconst 0, 1) := by decide +kernel
theorem dX9_copy_54 : decode cX9_copy 54 = .ok (.aload_n 0, 1) := by decide +kernel
theorem dX9_copy_55 : decode cX9_copy 55 = .ok (.getfield 7, 3) := by decide +kernel
theorem dX9_copy_58 : decode cX9_copy 58 = .ok (.iload_n 1, 1) := by decide +kernel
theorem dX9_copy_59 : decode cX9_copy 59 = .ok (.iaload, 1) := by decide +kernel
theorem dX9_copy_60 : decode cX9_copy 60 = .ok (.i2l, 1) := by decide +kernel
theorem dX9_copy_61 : decode cX9_copy 61 = .ok (.iload 5, 2) := by decide +kernel
theorem dX9_copy_63 : decode cX9_copy 63 = .ok (.i2l, 1) := by decide +kernel
theorem dX9_copy_64 : decode cX9_copy 64 = .ok (.lsub, 1) := by decide +kernel
theorem dX9_copy_65 : decode cX9_copy 65 = .ok (.invokestatic 98, 3) := by decide +kernel
theorem dX9_copy_68 : decode cX9_copy 68 = .ok (.ifCond .eq 24, 3) := by decide +kernel
theorem dX9_copy_71 : decode cX9_copy 71 = .ok (.iload 4, 2) := by decide +kernel
theorem dX9_copy_73 : decode cX9_copy 73 = .ok (.i2l, 1) := by decide +kernel
theorem dX9_copy_74 : decode cX9_copy 74 = .ok (.lconst 0, 1) := by decide +kernel
theorem dX9_copy_75 : decode cX9_copy 75 = .ok (.aload_n 0, 1) := by decide +kernel
theorem dX9_copy_76 : decode cX9_copy 76 = .ok (.getfield 7, 3) := by decide +kernel
theorem dX9_copy_79 : decode cX9_copy 79 = .ok (.iload_n 3, 1) := by decide +kernel
theorem dX9_copy_80 : decode cX9_copy 80 = .ok (.iaload, 1) := by decide +kernel
theorem dX9_copy_81 : decode cX9_copy 81 = .ok (.i2l, 1) := by decide +kernel
theorem dX9_copy_82 : decode cX9_copy 82 = .ok (.iload 5, 2) := by decide +kernel
theorem dX9_copy_84 : decode cX9_copy 84 = .ok (.i2l, 1) := by decide +kernel
theorem dX9_copy_85 : decode cX9_copy 85 = .ok (.lsub, 1) := by decide +kernel
theorem dX9_copy_86 : decode cX9_copy 86 = .ok (.invokestatic 98, 3) := by decide +kernel
theorem dX9_copy_89 : decode cX9_copy 89 = .ok (.ifCond .ne 9, 3) := by decide +kernel
theorem dX9_copy_92 : decode cX9_copy 92 = .ok (.aload_n 0, 1) := by decide +kernel
theorem dX9_copy_93 : decode cX9_copy 93 = .ok (.iconst 2, 1) := by decide +kernel
theorem dX9_copy_94 : decode cX9_copy 94 = .ok (.invokevirtual 108, 3) := by decide +kernel
theorem dX9_copy_97 : decode cX9_copy 97 = .ok (.ireturn, 1) := by decide +kernel
theorem dX9_copy_98 : decode cX9_copy 98 = .ok (.iconst 0, 1) := by decide +kernel
theorem dX9_copy_99 : decode cX9_copy 99 = .ok (.istore 6, 2) := by decide +kernel
theorem dX9_copy_101 : decode cX9_copy 101 = .ok (.iload 6, 2) := by decide +kernel
theorem dX9_copy_103 : decode cX9_copy 103 = .ok (.iload 5, 2) := by decide +kernel
theorem dX9_copy_105 : decode cX9_copy 105 = .ok (.if_icmp .ge 30, 3) := by decide +kernel
theorem dX9_copy_108 : decode cX9_copy 108 = .ok (.aload_n 0, 1) := by decide +kernel
theorem dX9_copy_109 : decode cX9_copy 109 = .ok (.getfield 52, 3) := by decide +kernel
theorem dX9_copy_112 : decode cX9_copy 112 = .ok (.iload 6, 2) := by decide +kernel
theorem dX9_copy_114 : decode cX9_copy 114 = .ok (.aload_n 0, 1) := by decide +kernel
theorem dX9_copy_115 : decode cX9_copy 115 = .ok (.getfield 13, 3) := by decide +kernel
theorem dX9_copy_118 : decode cX9_copy 118 = .ok (.bipush 40, 2) := by decide +kernel
theorem dX9_copy_120 : decode cX9_copy 120 = .ok (.iload_n 1, 1) := by decide +kernel
theorem dX9_copy_121 : decode cX9_copy 121 = .ok (.imul, 1) := by decide +kernel
theorem dX9_copy_122 : decode cX9_copy 122 = .ok (.iload_n 2, 1) := by decide +kernel
theorem dX9_copy_123 : decode cX9_copy 123 = .ok (.iadd, 1) := by decide +kernel
theorem dX9_copy_124 : decode cX9_copy 124 = .ok (.iload 6, 2) := by decide +kernel
theorem dX9_copy_126 : decode cX9_copy 126 = .ok (.iadd, 1) := by decide +kernel
theorem dX9_copy_127 : decode cX9_copy 127 = .ok (.iaload, 1) := by decide +kernel
theorem dX9_copy_128 : decode cX9_copy 128 = .ok (.iastore, 1) := by decide +kernel
theorem dX9_copy_129 : decode cX9_copy 129 = .ok (.iinc 6 1, 3) := by decide +kernel
theorem dX9_copy_132 : decode cX9_copy 132 = .ok (.goto (-31), 3) := by decide +kernel
theorem dX9_copy_135 : decode cX9_copy 135 = .ok (.iconst 0, 1) := by decide +kernel
theorem dX9_copy_136 : decode cX9_copy 136 = .ok (.istore 6, 2) := by decide +kernel
theorem dX9_copy_138 : decode cX9_copy 138 = .ok (.iload 6, 2) := by decide +kernel
theorem dX9_copy_140 : decode cX9_copy 140 = .ok (.iload 5, 2) := by decide +kernel
theorem dX9_copy_142 : decode cX9_copy 142 = .ok (.if_icmp .ge 31, 3) := by decide +kernel
theorem dX9_copy_145 : decode cX9_copy 145 = .ok (.aload_n 0, 1) := by decide +kernel
theorem dX9_copy_146 : decode cX9_copy 146 = .ok (.getfield 13, 3) := by decide +kernel
theorem dX9_copy_149 : decode cX9_copy 149 = .ok (.bipush 40, 2) := by decide +kernel
theorem dX9_copy_151 : decode cX9_copy 151 = .ok (.iload_n 3, 1) := by decide +kernel
theorem dX9_copy_152 : decode cX9_copy 152 = .ok (.imul, 1) := by decide +kernel
theorem dX9_copy_153 : decode cX9_copy 153 = .ok (.iload 4, 2) := by decide +kernel
theorem dX9_copy_155 : decode cX9_copy 155 = .ok (.iadd, 1) := by decide +kernel
theorem dX9_copy_156 : decode cX9_copy 156 = .ok (.iload 6, 2) := by decide +kernel
theorem dX9_copy_158 : decode cX9_copy 158 = .ok (.iadd, 1) := by decide +kernel
theorem dX9_copy_159 : decode cX9_copy 159 = .ok (.aload_n 0, 1) := by decide +kernel
theorem dX9_copy_160 : decode cX9_copy 160 = .ok (.getfield 52, 3) := by decide +kernel
theorem dX9_copy_163 : decode cX9_copy 163 = .ok (.iload 6, 2) := by decide +kernel
theorem dX9_copy_165 : decode cX9_copy 165 = .ok (.iaload, 1) := by decide +kernel
theorem dX9_copy_166 : decode cX9_copy 166 = .ok (.iastore, 1) := by decide +kernel
theorem dX9_copy_167 : decode cX9_copy 167 = .ok (.iinc 6 1, 3) := by decide +kernel
theorem dX9_copy_170 : decode cX9_copy 170 = .ok (.goto (-32), 3) := by decide +kernel
theorem dX9_copy_173 : decode cX9_copy 173 = .ok (.iconst 1, 1) := by decide +kernel
theorem dX9_copy_174 : decode cX9_copy 174 = .ok (.ireturn, 1) := by decide +kernel
set_option maxRecDepth 20000 in
theorem ggX9_mean_X9_isRow : GoodIn wsX9_mean wsX9_isRow := goodIn_r _ [6, 7, 8, 9, 5, 10] (by decide +kernel) (by decide +kernel)
set_option maxRecDepth 20000 in
theorem gX9_mean_X9_isRow : GoodIn wsX9_mean (va_wsS RX9 104 yX9_isRow wsX9_isRow) := goodIn_app (goodIn_of _ (by decide +kernel)) ggX9_mean_X9_isRow
set_option maxRecDepth 20000 in
theorem ggX9_mean_X9_find : GoodIn wsX9_mean wsX9_find := goodIn_r _ [14, 15, 16, 22, 23, 24, 25, 26, 27, 28, 29, 30, 31, 32, 33, 34, 35, 36, 37, 38, 39, 40, 41, 42, 43, 44, 45, 46, 47, 48, 49, 50, 51, 52, 53, 54, 55, 56, 57] (by decide +kernel) (by decide +kernel)
set_option maxRecDepth 20000 in
theorem gX9_mean_X9_find : GoodIn wsX9_mean (wsV RX9 108 RX9 yX9_find wsX9_find) := goodIn_app (goodIn_of _ (by decide +kernel)) ggX9_mean_X9_find
set_option maxRecDepth 20000 in
theorem ggX9_mean_X9_say : GoodIn wsX9_mean wsX9_say := goodIn_r _ [20, 21, 22, 23, 24, 25, 26, 27, 28, 29, 30, 31, 32, 33, 34, 35, 36, 37, 38, 39, 40, 41, 42, 43, 44, 45, 46, 47, 48, 49, 50, 51, 52, 53, 54, 55, 56, 57] (by decide +kernel) (by decide +kernel)
set_option maxRecDepth 20000 in
theorem gX9_mean_X9_say : GoodIn wsX9_mean (wsV RX9 116 RX9 yX9_say wsX9_say) := goodIn_app (goodIn_of _ (by decide +kernel)) ggX9_mean_X9_say
theorem dX9_mean_0 : decode cX9_mean 0 = .ok (.iload_n 1, 1) := by decide +kernel
theorem dX9_mean_1 : decode cX9_mean 1 = .ok (.invokestatic 104, 3) := by decide +kernel
theorem dX9_mean_4 : decode cX9_mean 4 = .ok (.ifCond .ne 5, 3) := by decide +kernel
theorem dX9_mean_7 : decode cX9_mean 7 = .ok (.iconst (-1), 1) := by decide +kernel
theorem dX9_mean_8 : decode cX9_mean 8 = .ok (.ireturn, 1) := by decide +kernel
theorem dX9_mean_9 : decode cX9_mean 9 = .ok (.aload_n 0, 1) := by decide +kernel
theorem dX9_mean_10 : decode cX9_mean 10 = .ok (.getfield 7, 3) := by decide +kernel
theorem dX9_mean_13 : decode cX9_mean 13 = .ok (.iload_n 1, 1) := by decide +kernel
theorem dX9_mean_14 : decode cX9_mean 14 = .ok (.iaload, 1) := by decide +kernel
theorem dX9_mean_15 : decode cX9_mean 15 = .ok (.ifCond .ge 9, 3) := by decide +kernel
theorem dX9_mean_18 : decode cX9_mean 18 = .ok (.aload_n 0, 1) := by decide +kernel
theorem dX9_mean_19 : decode cX9_mean 19 = .ok (.iconst 1, 1) := by decide +kernel
theorem dX9_mean_20 : decode cX9_mean 20 = .ok (.invokevirtual 108, 3) := by decide +kernel
theorem dX9_mean_23 : decode cX9_mean 23 = .ok (.ireturn, 1) := by decide +kernel
theorem dX9_mean_24 : decode cX9_mean 24 = .ok (.aload_n 0, 1) := by decide +kernel
theorem dX9_mean_25 : decode cX9_mean 25 = .ok (.getfield 7, 3) := by decide +kernel
theorem dX9_mean_28 : decode cX9_mean 28 = .ok (.iload_n 1, 1) := by decide +kernel
theorem dX9_mean_29 : decode cX9_mean 29 = .ok (.iaload, 1) := by decide +kernel
theorem dX9_mean_30 : decode cX9_mean 30 = .ok (.ifCond .ne 9, 3) := by decide +kernel
theorem dX9_mean_33 : decode cX9_mean 33 = .ok (.aload_n 0, 1) := by decide +kernel
theorem dX9_mean_34 : decode cX9_mean 34 = .ok (.iconst 4, 1) := by decide +kernel
theorem dX9_mean_35 : decode cX9_mean 35 = .ok (.invokevirtual 108, 3) := by decide +kernel
theorem dX9_mean_38 : decode cX9_mean 38 = .ok (.ireturn, 1) := by decide +kernel
theorem dX9_mean_39 : decode cX9_mean 39 = .ok (.lconst 0, 1) := by decide +kernel
theorem dX9_mean_40 : decode cX9_mean 40 = .ok (.lstore_n 2, 1) := by decide +kernel
theorem dX9_mean_41 : decode cX9_mean 41 = .ok (.iconst 0, 1) := by decide +kernel
theorem dX9_mean_42 : decode cX9_mean 42 = .ok (.istore 4, 2) := by decide +kernel
theorem dX9_mean_44 : decode cX9_mean 44 = .ok (.iload 4, 2) := by decide +kernel
theorem dX9_mean_46 : decode cX9_mean 46 = .ok (.aload_n 0, 1) := by decide +kernel
theorem dX9_mean_47 : decode cX9_mean 47 = .ok (.getfield 7, 3) := by decide +kernel
theorem dX9_mean_50 : decode cX9_mean 50 = .ok (.iload_n 1, 1) := by decide +kernel
theorem dX9_mean_51 : decode cX9_mean 51 = .ok (.iaload, 1) := by decide +kernel
theorem dX9_mean_52 : decode cX9_mean 52 = .ok (.if_icmp .ge 25, 3) := by decide +kernel
theorem dX9_mean_55 : decode cX9_mean 55 = .ok (.lload_n 2, 1) := by decide +kernel
theorem dX9_mean_56 : decode cX9_mean 56 = .ok (.aload_n 0, 1) := by decide +kernel
theorem dX9_mean_57 : decode cX9_mean 57 = .ok (.getfield 13, 3) := by decide +kernel
theorem dX9_mean_60 : decode cX9_mean 60 = .ok (.bipush 40, 2) := by decide +kernel
theorem dX9_mean_62 : decode cX9_mean 62 = .ok (.iload_n 1, 1) := by decide +kernel
theorem dX9_mean_63 : decode cX9_mean 63 = .ok (.imul, 1) := by decide +kernel
theorem dX9_mean_64 : decode cX9_mean 64 = .ok (.iload 4, 2) := by decide +kernel
theorem dX9_mean_66 : decode cX9_mean 66 = .ok (.iadd, 1) := by decide +kernel
theorem dX9_mean_67 : decode cX9_mean 67 = .ok (.iaload, 1) := by decide +kernel
theorem dX9_mean_68 : decode cX9_mean 68 = .ok (.i2l, 1) := by decide +kernel
theorem dX9_mean_69 : decode cX9_mean 69 = .ok (.ladd, 1) := by decide +kernel
theorem dX9_mean_70 : decode cX9_mean 70 = .ok (.lstore_n 2, 1) := by decide +kernel
theorem dX9_mean_71 : decode cX9_mean 71 = .ok (.iinc 4 1, 3) := by decide +kernel
theorem dX9_mean_74 : decode cX9_mean 74 = .ok (.goto (-30), 3) := by decide +kernel
theorem dX9_mean_77 : decode cX9_mean 77 = .ok (.aload_n 0, 1) := by decide +kernel
theorem dX9_mean_78 : decode cX9_mean 78 = .ok (.iconst 1, 1) := by decide +kernel
theorem dX9_mean_79 : decode cX9_mean 79 = .ok (.lload_n 2, 1) := by decide +kernel
theorem dX9_mean_80 : decode cX9_mean 80 = .ok (.aload_n 0, 1) := by decide +kernel
theorem dX9_mean_81 : decode cX9_mean 81 = .ok (.getfield 7, 3) := by decide +kernel
theorem dX9_mean_84 : decode cX9_mean 84 = .ok (.iload_n 1, 1) := by decide +kernel
theorem dX9_mean_85 : decode cX9_mean 85 = .ok (.iaload, 1) := by decide +kernel
theorem dX9_mean_86 : decode cX9_mean 86 = .ok (.i2l, 1) := by decide +kernel
theorem dX9_mean_87 : decode cX9_mean 87 = .ok (.ldiv, 1) := by decide +kernel
theorem dX9_mean_88 : decode cX9_mean 88 = .ok (.l2i, 1) := by decide +kernel
theorem dX9_mean_89 : decode cX9_mean 89 = .ok (.invokevirtual 116, 3) := by decide +kernel
theorem dX9_mean_92 : decode cX9_mean 92 = .ok (.ireturn, 1) := by decide +kernel
set_option maxRecDepth 20000 in
theorem ggX9_text_X9_isText : GoodIn wsX9_text wsX9_isText := goodIn_r _ [6, 7, 8, 9, 5, 10] (by decide +kernel) (by decide +kernel)
set_option maxRecDepth 20000 in
theorem gX9_text_X9_isText : GoodIn wsX9_text (va_wsS RX9 119 yX9_isText wsX9_isText) := goodIn_app (goodIn_of _ (by decide +kernel)) ggX9_text_X9_isText
set_option maxRecDepth 20000 in
theorem ggX9_text_X9_find : GoodIn wsX9_text wsX9_find := goodIn_r _ [14, 15, 16, 17, 18, 19, 20, 21, 22, 23, 24, 25, 26, 27, 28, 29, 30, 31, 32, 33, 34, 35, 36, 37, 38, 39, 40, 41, 42, 43, 44, 45, 46, 47, 48, 49, 50, 51, 52] (by decide +kernel) (by decide +kernel)
set_option maxRecDepth 20000 in
theorem gX9_text_X9_find : GoodIn wsX9_text (wsV RX9 108 RX9 yX9_find wsX9_find) := goodIn_app (goodIn_of _ (by decide +kernel)) ggX9_text_X9_find
theorem dX9_text_0 : decode cX9_text 0 = .ok (.iload_n 1, 1) := by decide +kernel
theorem dX9_text_1 : decode cX9_text 1 = .ok (.invokestatic 119, 3) := by decide +kernel
theorem dX9_text_4 : decode cX9_text 4 = .ok (.ifCond .eq 9, 3) := by decide +kernel
theorem dX9_text_7 : decode cX9_text 7 = .ok (.iload_n 2, 1) := by decide +kernel
theorem dX9_text_8 : decode cX9_text 8 = .ok (.bipush 80, 2) := by decide +kernel
theorem dX9_text_10 : decode cX9_text 10 = .ok (.if_icmp .le 5, 3) := by decide +kernel
theorem dX9_text_13 : decode cX9_text 13 = .ok (.iconst (-1), 1) := by decide +kernel
theorem dX9_text_14 : decode cX9_text 14 = .ok (.ireturn, 1) := by decide +kernel
theorem dX9_text_15 : decode cX9_text 15 = .ok (.iload_n 2, 1) := by decide +kernel
theorem dX9_text_16 : decode cX9_text 16 = .ok (.ifCond .ge 9, 3) := by decide +kernel
theorem dX9_text_19 : decode cX9_text 19 = .ok (.aload_n 0, 1) := by decide +kernel
theorem dX9_text_20 : decode cX9_text 20 = .ok (.iconst 5, 1) := by decide +kernel
theorem dX9_text_21 : decode cX9_text 21 = .ok (.invokevirtual 108, 3) := by decide +kernel
theorem dX9_text_24 : decode cX9_text 24 = .ok (.ireturn, 1) := by decide +kernel
theorem dX9_text_25 : decode cX9_text 25 = .ok (.aload_n 0, 1) := by decide +kernel
theorem dX9_text_26 : decode cX9_text 26 = .ok (.getfield 16, 3) := by decide +kernel
theorem dX9_text_29 : decode cX9_text 29 = .ok (.iload_n 1, 1) := by decide +kernel
theorem dX9_text_30 : decode cX9_text 30 = .ok (.iload_n 2, 1) := by decide +kernel
theorem dX9_text_31 : decode cX9_text 31 = .ok (.iastore, 1) := by decide +kernel
theorem dX9_text_32 : decode cX9_text 32 = .ok (.iconst 0, 1) := by decide +kernel
theorem dX9_text_33 : decode cX9_text 33 = .ok (.istore_n 3, 1) := by decide +kernel
theorem dX9_text_34 : decode cX9_text 34 = .ok (.iload_n 3, 1) := by decide +kernel
theorem dX9_text_35 : decode cX9_text 35 = .ok (.bipush 80, 2) := by decide +kernel
theorem dX9_text_37 : decode cX9_text 37 = .ok (.if_icmp .ge 22, 3) := by decide +kernel
theorem dX9_text_40 : decode cX9_text 40 = .ok (.aload_n 0, 1) := by decide +kernel
theorem dX9_text_41 : decode cX9_text 41 = .ok (.getfield 19, 3) := by decide +kernel
theorem dX9_text_44 : decode cX9_text 44 = .ok (.bipush 80, 2) := by decide +kernel
theorem dX9_text_46 : decode cX9_text 46 = .ok (.iload_n 1, 1) := by decide +kernel
theorem dX9_text_47 : decode cX9_text 47 = .ok (.imul, 1) := by decide +kernel
theorem dX9_text_48 : decode cX9_text 48 = .ok (.iload_n 3, 1) := by decide +kernel
theorem dX9_text_49 : decode cX9_text 49 = .ok (.iadd, 1) := by decide +kernel
theorem dX9_text_50 : decode cX9_text 50 = .ok (.bipush 32, 2) := by decide +kernel
theorem dX9_text_52 : decode cX9_text 52 = .ok (.iastore, 1) := by decide +kernel
theorem dX9_text_53 : decode cX9_text 53 = .ok (.iinc 3 1, 3) := by decide +kernel
theorem dX9_text_56 : decode cX9_text 56 = .ok (.goto (-22), 3) := by decide +kernel
theorem dX9_text_59 : decode cX9_text 59 = .ok (.iload_n 2, 1) := by decide +kernel
theorem dX9_text_60 : decode cX9_text 60 = .ok (.ireturn, 1) := by decide +kernel
set_option maxRecDepth 20000 in
theorem ggX9_put_X9_isText : GoodIn wsX9_put wsX9_isText := goodIn_r _ [6, 7, 8, 9, 5, 10] (by decide +kernel) (by decide +kernel)
set_option maxRecDepth 20000 in
theorem gX9_put_X9_isText : GoodIn wsX9_put (va_wsS RX9 119 yX9_isText wsX9_isText) := goodIn_app (goodIn_of _ (by decide +kernel)) ggX9_put_X9_isText
set_option maxRecDepth 20000 in
theorem ggX9_put_X9_find : GoodIn wsX9_put wsX9_find := goodIn_r _ [14, 15, 16, 17, 18, 19, 20, 21, 22, 23, 24, 25, 26, 27, 28, 29, 30, 31, 32, 33, 34, 35, 36, 37, 38, 39, 40, 41, 42, 43, 44, 45, 46, 47, 48, 49, 50, 51, 52] (by decide +kernel) (by decide +kernel)
set_option maxRecDepth 20000 in
theorem gX9_put_X9_find : GoodIn wsX9_put (wsV RX9 108 RX9 yX9_find wsX9_find) := goodIn_app (goodIn_of _ (by decide +kernel)) ggX9_put_X9_find
set_option maxRecDepth 20000 in
theorem ggX9_put_X9_in : GoodIn wsX9_put wsX9_in := goodIn_r _ [10] (by decide +kernel) (by decide +kernel)
set_option maxRecDepth 20000 in
theorem gX9_put_X9_in : GoodIn wsX9_put (va_wsS RX9 98 yX9_in wsX9_in) := goodIn_app (goodIn_of _ (by decide +kernel)) ggX9_put_X9_in
theorem dX9_put_0 : decode cX9_put 0 = .ok (.iload_n 1, 1) := by decide +kernel
theorem dX9_put_1 : decode cX9_put 1 = .ok (.invokestatic 119, 3) := by decide +kernel
theorem dX9_put_4 : decode cX9_put 4 = .ok (.ifCond .ne 5, 3) := by decide +kernel
theorem dX9_put_7 : decode cX9_put 7 = .ok (.iconst (-1), 1) := by decide +kernel
theorem dX9_put_8 : decode cX9_put 8 = .ok (.ireturn, 1) := by decide +kernel
theorem dX9_put_9 : decode cX9_put 9 = .ok (.aload_n 0, 1) := by decide +kernel
theorem dX9_put_10 : decode cX9_put 10 = .ok (.getfield 16, 3) := by decide +kernel
theorem dX9_put_13 : decode cX9_put 13 = .ok (.iload_n 1, 1) := by decide +kernel
theorem dX9_put_14 : decode cX9_put 14 = .ok (.iaload, 1) := by decide +kernel
theorem dX9_put_15 : decode cX9_put 15 = .ok (.ifCond .ge 9, 3) := by decide +kernel
theorem dX9_put_18 : decode cX9_put 18 = .ok (.aload_n 0, 1) := by decide +kernel
theorem dX9_put_19 : decode cX9_put 19 = .ok (.iconst 1, 1) := by decide +kernel
theorem dX9_put_20 : decode cX9_put 20 = .ok (.invokevirtual 108, 3) := by decide +kernel
theorem dX9_put_23 : decode cX9_put 23 = .ok (.ireturn, 1) := by decide +kernel
theorem dX9_put_24 : decode cX9_put 24 = .ok (.iload_n 2, 1) := by decide +kernel
theorem dX9_put_25 : decode cX9_put 25 = .ok (.i2l, 1) := by decide +kernel
theorem dX9_put_26 : decode cX9_put 26 = .ok (.lconst 0, 1) := by decide +kernel
theorem dX9_put_27 : decode cX9_put 27 = .ok (.aload_n 0, 1) := by decide +kernel
theorem dX9_put_28 : decode cX9_put 28 = .ok (.getfield 16, 3) := by decide +kernel
theorem dX9_put_31 : decode cX9_put 31 = .ok (.iload_n 1, 1) := by decide +kernel
theorem dX9_put_32 : decode cX9_put 32 = .ok (.iaload, 1) := by decide +kernel
theorem dX9_put_33 : decode cX9_put 33 = .ok (.iconst 1, 1) := by decide +kernel
theorem dX9_put_34 : decode cX9_put 34 = .ok (.isub, 1) := by decide +kernel
theorem dX9_put_35 : decode cX9_put 35 = .ok (.i2l, 1) := by decide +kernel
theorem dX9_put_36 : decode cX9_put 36 = .ok (.invokestatic 98, 3) := by decide +kernel
theorem dX9_put_39 : decode cX9_put 39 = .ok (.ifCond .ne 9, 3) := by decide +kernel
theorem dX9_put_42 : decode cX9_put 42 = .ok (.aload_n 0, 1) := by decide +kernel
theorem dX9_put_43 : decode cX9_put 43 = .ok (.iconst 2, 1) := by decide +kernel
theorem dX9_put_44 : decode cX9_put 44 = .ok (.invokevirtual 108, 3) := by decide +kernel
theorem dX9_put_47 : decode cX9_put 47 = .ok (.ireturn, 1) := by decide +kernel
theorem dX9_put_48 : decode cX9_put 48 = .ok (.aload_n 0, 1) := by decide +kernel
theorem dX9_put_49 : decode cX9_put 49 = .ok (.getfield 19, 3) := by decide +kernel
theorem dX9_put_52 : decode cX9_put 52 = .ok (.bipush 80, 2) := by decide +kernel
theorem dX9_put_54 : decode cX9_put 54 = .ok (.iload_n 1, 1) := by decide +kernel
theorem dX9_put_55 : decode cX9_put 55 = .ok (.imul, 1) := by decide +kernel
theorem dX9_put_56 : decode cX9_put 56 = .ok (.iload_n 2, 1) := by decide +kernel
theorem dX9_put_57 : decode cX9_put 57 = .ok (.iadd, 1) := by decide +kernel
theorem dX9_put_58 : decode cX9_put 58 = .ok (.iaload, 1) := by decide +kernel
theorem dX9_put_59 : decode cX9_put 59 = .ok (.istore 4, 2) := by decide +kernel
theorem dX9_put_61 : decode cX9_put 61 = .ok (.aload_n 0, 1) := by decide +kernel
theorem dX9_put_62 : decode cX9_put 62 = .ok (.getfield 19, 3) := by decide +kernel
theorem dX9_put_65 : decode cX9_put 65 = .ok (.bipush 80, 2) := by decide +kernel
theorem dX9_put_67 : decode cX9_put 67 = .ok (.iload_n 1, 1) := by decide +kernel
theorem dX9_put_68 : decode cX9_put 68 = .ok (.imul, 1) := by decide +kernel
theorem dX9_put_69 : decode cX9_put 69 = .ok (.iload_n 2, 1) := by decide +kernel
theorem dX9_put_70 : decode cX9_put 70 = .ok (.iadd, 1) := by decide +kernel
theorem dX9_put_71 : decode cX9_put 71 = .ok (.iload_n 3, 1) := by decide +kernel
theorem dX9_put_72 : decode cX9_put 72 = .ok (.bipush 24, 2) := by decide +kernel
theorem dX9_put_74 : decode cX9_put 74 = .ok (.ishl, 1) := by decide +kernel
theorem dX9_put_75 : decode cX9_put 75 = .ok (.bipush 24, 2) := by decide +kernel
theorem dX9_put_77 : decode cX9_put 77 = .ok (.ishr, 1) := by decide +kernel
theorem dX9_put_78 : decode cX9_put 78 = .ok (.iastore, 1) := by decide +kernel
theorem dX9_put_79 : decode cX9_put 79 = .ok (.iload 4, 2) := by decide +kernel
theorem dX9_put_81 : decode cX9_put 81 = .ok (.sipush 1000, 3) := by decide +kernel
theorem dX9_put_84 : decode cX9_put 84 = .ok (.iadd, 1) := by decide +kernel
theorem dX9_put_85 : decode cX9_put 85 = .ok (.ireturn, 1) := by decide +kernel
theorem dX9_nextByte_0 : decode cX9_nextByte 0 = .ok (.aload_n 0, 1) := by decide +kernel
theorem dX9_nextByte_1 : decode cX9_nextByte 1 = .ok (.getfield 122, 3) := by decide +kernel
theorem dX9_nextByte_4 : decode cX9_nextByte 4 = .ok (.aload_n 0, 1) := by decide +kernel
theorem dX9_nextByte_5 : decode cX9_nextByte 5 = .ok (.getfield 16, 3) := by decide +kernel
theorem dX9_nextByte_8 : decode cX9_nextByte 8 = .ok (.iload_n 1, 1) := by decide +kernel
theorem dX9_nextByte_9 : decode cX9_nextByte 9 = .ok (.iaload, 1) := by decide +kernel
theorem dX9_nextByte_10 : decode cX9_nextByte 10 = .ok (.if_icmp .ge 35, 3) := by decide +kernel
theorem dX9_nextByte_13 : decode cX9_nextByte 13 = .ok (.aload_n 0, 1) := by decide +kernel
theorem dX9_nextByte_14 : decode cX9_nextByte 14 = .ok (.getfield 19, 3) := by decide +kernel
theorem dX9_nextByte_17 : decode cX9_nextByte 17 = .ok (.bipush 80, 2) := by decide +kernel
theorem dX9_nextByte_19 : decode cX9_nextByte 19 = .ok (.iload_n 1, 1) := by decide +kernel
theorem dX9_nextByte_20 : decode cX9_nextByte 20 = .ok (.imul, 1) := by decide +kernel
theorem dX9_nextByte_21 : decode cX9_nextByte 21 = .ok (.aload_n 0, 1) := by decide +kernel
theorem dX9_nextByte_22 : decode cX9_nextByte 22 = .ok (.getfield 122, 3) := by decide +kernel
theorem dX9_nextByte_25 : decode cX9_nextByte 25 = .ok (.iadd, 1) := by decide +kernel
theorem dX9_nextByte_26 : decode cX9_nextByte 26 = .ok (.iaload, 1) := by decide +kernel
theorem dX9_nextByte_27 : decode cX9_nextByte 27 = .ok (.bipush 32, 2) := by decide +kernel
theorem dX9_nextByte_29 : decode cX9_nextByte 29 = .ok (.if_icmp .ne 16, 3) := by decide +kernel
theorem dX9_nextByte_32 : decode cX9_nextByte 32 = .ok (.aload_n 0, 1) := by decide +kernel
theorem dX9_nextByte_33 : decode cX9_nextByte 33 = .ok (.dup, 1) := by decide +kernel
theorem dX9_nextByte_34 : decode cX9_nextByte 34 = .ok (.getfield 122, 3) := by decide +kernel
theorem dX9_nextByte_37 : decode cX9_nextByte 37 = .ok (.iconst 1, 1) := by decide +kernel
theorem dX9_nextByte_38 : decode cX9_nextByte 38 = .ok (.iadd, 1) := by decide +kernel
theorem dX9_nextByte_39 : decode cX9_nextByte 39 = .ok (.putfield 122, 3) := by decide +kernel
theorem dX9_nextByte_42 : decode cX9_nextByte 42 = .ok (.goto (-42), 3) := by decide +kernel
theorem dX9_nextByte_45 : decode cX9_nextByte 45 = .ok (.aload_n 0, 1) := by decide +kernel
theorem dX9_nextByte_46 : decode cX9_nextByte 46 = .ok (.getfield 122, 3) := by decide +kernel
theorem dX9_nextByte_49 : decode cX9_nextByte 49 = .ok (.aload_n 0, 1) := by decide +kernel
theorem dX9_nextByte_50 : decode cX9_nextByte 50 = .ok (.getfield 16, 3) := by decide +kernel
theorem dX9_nextByte_53 : decode cX9_nextByte 53 = .ok (.iload_n 1, 1) := by decide +kernel
theorem dX9_nextByte_54 : decode cX9_nextByte 54 = .ok (.iaload, 1) := by decide +kernel
theorem dX9_nextByte_55 : decode cX9_nextByte 55 = .ok (.if_icmp .ge 20, 3) := by decide +kernel
theorem dX9_nextByte_58 : decode cX9_nextByte 58 = .ok (.aload_n 0, 1) := by decide +kernel
theorem dX9_nextByte_59 : decode cX9_nextByte 59 = .ok (.getfield 19, 3) := by decide +kernel
theorem dX9_nextByte_62 : decode cX9_nextByte 62 = .ok (.bipush 80, 2) := by decide +kernel
theorem dX9_nextByte_64 : decode cX9_nextByte 64 = .ok (.iload_n 1, 1) := by decide +kernel
theorem dX9_nextByte_65 : decode cX9_nextByte 65 = .ok (.imul, 1) := by decide +kernel
theorem dX9_nextByte_66 : decode cX9_nextByte 66 = .ok (.aload_n 0, 1) := by decide +kernel
theorem dX9_nextByte_67 : decode cX9_nextByte 67 = .ok (.getfield 122, 3) := by decide +kernel
theorem dX9_nextByte_70 : decode cX9_nextByte 70 = .ok (.iadd, 1) := by decide +kernel
theorem dX9_nextByte_71 : decode cX9_nextByte 71 = .ok (.iaload, 1) := by decide +kernel
theorem dX9_nextByte_72 : decode cX9_nextByte 72 = .ok (.goto 5, 3) := by decide +kernel
theorem dX9_nextByte_75 : decode cX9_nextByte 75 = .ok (.bipush (-9), 2) := by decide +kernel
theorem dX9_nextByte_77 : decode cX9_nextByte 77 = .ok (.ireturn, 1) := by decide +kernel
theorem dX9_byteAt_0 : decode cX9_byteAt 0 = .ok (.aload_n 0, 1) := by decide +kernel
theorem dX9_byteAt_1 : decode cX9_byteAt 1 = .ok (.getfield 122, 3) := by decide +kernel
theorem dX9_byteAt_4 : decode cX9_byteAt 4 = .ok (.aload_n 0, 1) := by decide +kernel
theorem dX9_byteAt_5 : decode cX9_byteAt 5 = .ok (.getfield 16, 3) := by decide +kernel
theorem dX9_byteAt_8 : decode cX9_byteAt 8 = .ok (.iload_n 1, 1) := by decide +kernel
theorem dX9_byteAt_9 : decode cX9_byteAt 9 = .ok (.iaload, 1) := by decide +kernel
theorem dX9_byteAt_10 : decode cX9_byteAt 10 = .ok (.if_icmp .ge 20, 3) := by decide +kernel
theorem dX9_byteAt_13 : decode cX9_byteAt 13 = .ok (.aload_n 0, 1) := by decide +kernel
theorem dX9_byteAt_14 : decode cX9_byteAt 14 = .ok (.getfield 19, 3) := by decide +kernel
theorem dX9_byteAt_17 : decode cX9_byteAt 17 = .ok (.bipush 80, 2) := by decide +kernel
theorem dX9_byteAt_19 : decode cX9_byteAt 19 = .ok (.iload_n 1, 1) := by decide +kernel
theorem dX9_byteAt_20 : decode cX9_byteAt 20 = .ok (.imul, 1) := by decide +kernel
theorem dX9_byteAt_21 : decode cX9_byteAt 21 = .ok (.aload_n 0, 1) := by decide +kernel
theorem dX9_byteAt_22 : decode cX9_byteAt 22 = .ok (.getfield 122, 3) := by decide +kernel
theorem dX9_byteAt_25 : decode cX9_byteAt 25 = .ok (.iadd, 1) := by decide +kernel
theorem dX9_byteAt_26 : decode cX9_byteAt 26 = .ok (.iaload, 1) := by decide +kernel
theorem dX9_byteAt_27 : decode cX9_byteAt 27 = .ok (.goto 5, 3) := by decide +kernel
theorem dX9_byteAt_30 : decode cX9_byteAt 30 = .ok (.bipush (-9), 2) := by decide +kernel
theorem dX9_byteAt_32 : decode cX9_byteAt 32 = .ok (.ireturn, 1) := by decide +kernel
theorem dX9_kindOf_0 : decode cX9_kindOf 0 = .ok (.iload_n 0, 1) := by decide +kernel
theorem dX9_kindOf_1 : decode cX9_kindOf 1 = .ok (.bipush 111, 2) := by decide +kernel
theorem dX9_kindOf_3 : decode cX9_kindOf 3 = .ok (.if_icmp .ne 7, 3) := by decide +kernel
theorem dX9_kindOf_6 : decode cX9_kindOf 6 = .ok (.iconst 0, 1) := by decide +kernel
theorem dX9_kindOf_7 : decode cX9_kindOf 7 = .ok (.goto 54, 3) := by decide +kernel
theorem dX9_kindOf_10 : decode cX9_kindOf 10 = .ok (.iload_n 0, 1) := by decide +kernel
theorem dX9_kindOf_11 : decode cX9_kindOf 11 = .ok (.bipush 108, 2) := by decide +kernel
theorem dX9_kindOf_13 : decode cX9_kindOf 13 = .ok (.if_icmp .ne 7, 3) := by decide +kernel
theorem dX9_kindOf_16 : decode cX9_kindOf 16 = .ok (.iconst 1, 1) := by decide +kernel
theorem dX9_kindOf_17 : decode cX9_kindOf 17 = .ok (.goto 44, 3) := by decide +kernel
theorem dX9_kindOf_20 : decode cX9_kindOf 20 = .ok (.iload_n 0, 1) := by decide +kernel
theorem dX9_kindOf_21 : decode cX9_kindOf 21 = .ok (.bipush 119, 2) := by decide +kernel
theorem dX9_kindOf_23 : decode cX9_kindOf 23 = .ok (.if_icmp .ne 7, 3) := by decide +kernel
theorem dX9_kindOf_26 : decode cX9_kindOf 26 = .ok (.iconst 2, 1) := by decide +kernel
theorem dX9_kindOf_27 : decode cX9_kindOf 27 = .ok (.goto 34, 3) := by decide +kernel
theorem dX9_kindOf_30 : decode cX9_kindOf 30 = .ok (.iload_n 0, 1) := by decide +kernel
theorem dX9_kindOf_31 : decode cX9_kindOf 31 = .ok (.bipush 100, 2) := by decide +kernel
theorem dX9_kindOf_33 : decode cX9_kindOf 33 = .ok (.if_icmp .ne 7, 3) := by decide +kernel
theorem dX9_kindOf_36 : decode cX9_kindOf 36 = .ok (.iconst 3, 1) := by decide +kernel
theorem dX9_kindOf_37 : decode cX9_kindOf 37 = .ok (.goto 24, 3) := by decide +kernel
theorem dX9_kindOf_40 : decode cX9_kindOf 40 = .ok (.iload_n 0, 1) := by decide +kernel
theorem dX9_kindOf_41 : decode cX9_kindOf 41 = .ok (.bipush 115, 2) := by decide +kernel
theorem dX9_kindOf_43 : decode cX9_kindOf 43 = .ok (.if_icmp .ne 7, 3) := by decide +kernel
theorem dX9_kindOf_46 : decode cX9_kindOf 46 = .ok (.iconst 4, 1) := by decide +kernel
theorem dX9_kindOf_47 : decode cX9_kindOf 47 = .ok (.goto 14, 3) := by decide +kernel
theorem dX9_kindOf_50 : decode cX9_kindOf 50 = .ok (.iload_n 0, 1) := by decide +kernel
theorem dX9_kindOf_51 : decode cX9_kindOf 51 = .ok (.bipush 105, 2) := by decide +kernel
theorem dX9_kindOf_53 : decode cX9_kindOf 53 = .ok (.if_icmp .ne 7, 3) := by decide +kernel
theorem dX9_kindOf_56 : decode cX9_kindOf 56 = .ok (.iconst 5, 1) := by decide +kernel
theorem dX9_kindOf_57 : decode cX9_kindOf 57 = .ok (.goto 4, 3) := by decide +kernel
theorem dX9_kindOf_60 : decode cX9_kindOf 60 = .ok (.iconst (-1), 1) := by decide +kernel
theorem dX9_kindOf_61 : decode cX9_kindOf 61 = .ok (.ireturn, 1) := by decide +kernel
set_option maxRecDepth 20000 in
theorem ggX9_readPaper_X9_nextByte : GoodIn wsX9_readPaper wsX9_nextByte := goodIn_r _ [10, 1, 11, 12, 20, 21, 22, 23, 24, 25, 26, 27, 28, 29, 30, 31, 32, 33, 34, 35, 36, 37, 38, 39, 40, 41, 42, 43, 44, 45, 46, 47, 48, 49, 50, 51, 52, 53, 54, 55] (by decide +kernel) (by decide +kernel)
set_option maxRecDepth 20000 in
theorem gX9_readPaper_X9_nextByte : GoodIn wsX9_readPaper (wsV RX9 125 RX9 yX9_nextByte wsX9_nextByte) := goodIn_app (goodIn_of _ (by decide +kernel)) ggX9_readPaper_X9_nextByte
set_option maxRecDepth 20000 in
theorem ggX9_readPaper_X9_byteAt : GoodIn wsX9_readPaper wsX9_byteAt := goodIn_r _ [16, 1, 11, 12, 20, 21, 22, 23, 24, 25, 26, 27, 28, 29, 30, 31, 32, 33, 34, 35, 36, 37, 38, 39, 40, 41, 42, 43, 44, 45, 46, 47, 48, 49, 50, 51, 52, 53, 54, 55] (by decide +kernel) (by decide +kernel)
set_option maxRecDepth 20000 in
theorem gX9_readPaper_X9_byteAt : GoodIn wsX9_readPaper (wsV RX9 128 RX9 yX9_byteAt wsX9_byteAt) := goodIn_app (goodIn_of _ (by decide +kernel)) ggX9_readPaper_X9_byteAt
set_option maxRecDepth 20000 in
theorem ggX9_readPaper_X9_in : GoodIn wsX9_readPaper wsX9_in := goodIn_r _ [19] (by decide +kernel) (by decide +kernel)
set_option maxRecDepth 20000 in
theorem gX9_readPaper_X9_in : GoodIn wsX9_readPaper (va_wsS RX9 98 yX9_in wsX9_in) := goodIn_app (goodIn_of _ (by decide +kernel)) ggX9_readPaper_X9_in
theorem dX9_readPaper_0 : decode cX9_readPaper 0 = .ok (.aload_n 0, 1) := by decide +kernel
theorem dX9_readPaper_1 : decode cX9_readPaper 1 = .ok (.iload_n 1, 1) := by decide +kernel
theorem dX9_readPaper_2 : decode cX9_readPaper 2 = .ok (.invokevirtual 125, 3) := by decide +kernel
theorem dX9_readPaper_5 : decode cX9_readPaper 5 = .ok (.bipush 112, 2) := by decide +kernel
theorem dX9_readPaper_7 : decode cX9_readPaper 7 = .ok (.if_icmp .eq 5, 3) := by decide +kernel
theorem dX9_readPaper_10 : decode cX9_readPaper 10 = .ok (.iconst 0, 1) := by decide +kernel
theorem dX9_readPaper_11 : decode cX9_readPaper 11 = .ok (.ireturn, 1) := by decide +kernel
theorem dX9_readPaper_12 : decode cX9_readPaper 12 = .ok (.aload_n 0, 1) := by decide +kernel
theorem dX9_readPaper_13 : decode cX9_readPaper 13 = .ok (.dup, 1) := by decide +kernel
theorem dX9_readPaper_14 : decode cX9_readPaper 14 = .ok (.getfield 122, 3) := by decide +kernel
theorem dX9_readPaper_17 : decode cX9_readPaper 17 = .ok (.iconst 1, 1) := by decide +kernel
theorem dX9_readPaper_18 : decode cX9_readPaper 18 = .ok (.iadd, 1) := by decide +kernel
theorem dX9_readPaper_19 : decode cX9_readPaper 19 = .ok (.putfield 122, 3) := by decide +kernel
theorem dX9_readPaper_22 : decode cX9_readPaper 22 = .ok (.aload_n 0, 1) := by decide +kernel
theorem dX9_readPaper_23 : decode cX9_readPaper 23 = .ok (.iload_n 1, 1) := by decide +kernel
theorem dX9_readPaper_24 : decode cX9_readPaper 24 = .ok (.invokevirtual 128, 3) := by decide +kernel
theorem dX9_readPaper_27 : decode cX9_readPaper 27 = .ok (.i2l, 1) := by decide +kernel
theorem dX9_readPaper_28 : decode cX9_readPaper 28 = .ok (.ldc2_w 131, 3) := by decide +kernel
theorem dX9_readPaper_31 : decode cX9_readPaper 31 = .ok (.ldc2_w 133, 3) := by decide +kernel
theorem dX9_readPaper_34 : decode cX9_readPaper 34 = .ok (.invokestatic 98, 3) := by decide +kernel
theorem dX9_readPaper_37 : decode cX9_readPaper 37 = .ok (.ifCond .eq 52, 3) := by decide +kernel
theorem dX9_readPaper_40 : decode cX9_readPaper 40 = .ok (.aload_n 0, 1) := by decide +kernel
theorem dX9_readPaper_41 : decode cX9_readPaper 41 = .ok (.getfield 135, 3) := by decide +kernel
theorem dX9_readPaper_44 : decode cX9_readPaper 44 = .ok (.bipush 6, 2) := by decide +kernel
theorem dX9_readPaper_46 : decode cX9_readPaper 46 = .ok (.if_icmp .ge 43, 3) := by decide +kernel
theorem dX9_readPaper_49 : decode cX9_readPaper 49 = .ok (.aload_n 0, 1) := by decide +kernel
theorem dX9_readPaper_50 : decode cX9_readPaper 50 = .ok (.getfield 55, 3) := by decide +kernel
theorem dX9_readPaper_53 : decode cX9_readPaper 53 = .ok (.aload_n 0, 1) := by decide +kernel
theorem dX9_readPaper_54 : decode cX9_readPaper 54 = .ok (.getfield 135, 3) := by decide +kernel
theorem dX9_readPaper_57 : decode cX9_readPaper 57 = .ok (.aload_n 0, 1) := by decide +kernel
theorem dX9_readPaper_58 : decode cX9_readPaper 58 = .ok (.iload_n 1, 1) := by decide +kernel
theorem dX9_readPaper_59 : decode cX9_readPaper 59 = .ok (.invokevirtual 128, 3) := by decide +kernel
theorem dX9_readPaper_62 : decode cX9_readPaper 62 = .ok (.bipush 48, 2) := by decide +kernel
theorem dX9_readPaper_64 : decode cX9_readPaper 64 = .ok (.isub, 1) := by decide +kernel
theorem dX9_readPaper_65 : decode cX9_readPaper 65 = .ok (.iastore, 1) := by decide +kernel
theorem dX9_readPaper_66 : decode cX9_readPaper 66 = .ok (.aload_n 0, 1) := by decide +kernel
theorem dX9_readPaper_67 : decode cX9_readPaper 67 = .ok (.dup, 1) := by decide +kernel
theorem dX9_readPaper_68 : decode cX9_readPaper 68 = .ok (.getfield 135, 3) := by decide +kernel
theorem dX9_readPaper_71 : decode cX9_readPaper 71 = .ok (.iconst 1, 1) := by decide +kernel
theorem dX9_readPaper_72 : decode cX9_readPaper 72 = .ok (.iadd, 1) := by decide +kernel
theorem dX9_readPaper_73 : decode cX9_readPaper 73 = .ok (.putfield 135, 3) := by decide +kernel
theorem dX9_readPaper_76 : decode cX9_readPaper 76 = .ok (.aload_n 0, 1) := by decide +kernel
theorem dX9_readPaper_77 : decode cX9_readPaper 77 = .ok (.dup, 1) := by decide +kernel
theorem dX9_readPaper_78 : decode cX9_readPaper 78 = .ok (.getfield 122, 3) := by decide +kernel
theorem dX9_readPaper_81 : decode cX9_readPaper 81 = .ok (.iconst 1, 1) := by decide +kernel
theorem dX9_readPaper_82 : decode cX9_readPaper 82 = .ok (.iadd, 1) := by decide +kernel
theorem dX9_readPaper_83 : decode cX9_readPaper 83 = .ok (.putfield 122, 3) := by decide +kernel
theorem dX9_readPaper_86 : decode cX9_readPaper 86 = .ok (.goto (-64), 3) := by decide +kernel
theorem dX9_readPaper_89 : decode cX9_readPaper 89 = .ok (.aload_n 0, 1) := by decide +kernel
theorem dX9_readPaper_90 : decode cX9_readPaper 90 = .ok (.getfield 135, 3) := by decide +kernel
theorem dX9_readPaper_93 : decode cX9_readPaper 93 = .ok (.ifCond .le 7, 3) := by decide +kernel
theorem dX9_readPaper_96 : decode cX9_readPaper 96 = .ok (.iconst 1, 1) := by decide +kernel
theorem dX9_readPaper_97 : decode cX9_readPaper 97 = .ok (.goto 4, 3) := by decide +kernel
theorem dX9_readPaper_100 : decode cX9_readPaper 100 = .ok (.iconst 0, 1) := by decide +kernel
theorem dX9_readPaper_101 : decode cX9_readPaper 101 = .ok (.ireturn, 1) := by decide +kernel
set_option maxRecDepth 20000 in
theorem ggX9_readStreet_X9_readPaper : GoodIn wsX9_readStreet wsX9_readPaper := goodIn_r _ [12, 1, 5, 13, 2, 14, 15, 16, 17, 11, 18, 4, 19, 20, 21, 22, 23, 24, 25, 26, 30, 31, 32, 33, 34, 35, 36, 37, 38, 39, 40, 41, 42, 43, 44, 45, 46, 47, 48, 49, 50, 51, 52, 53, 54, 55, 56, 57, 58, 59, 60, 61, 62, 63, 64, 65] (by decide +kernel) (by decide +kernel)
set_option maxRecDepth 20000 in
theorem gX9_readStreet_X9_readPaper : GoodIn wsX9_readStreet (wsV RX9 141 RX9 yX9_readPaper wsX9_readPaper) := goodIn_app (goodIn_of _ (by decide +kernel)) ggX9_readStreet_X9_readPaper
set_option maxRecDepth 20000 in
theorem ggX9_readStreet_X9_nextByte : GoodIn wsX9_readStreet wsX9_nextByte := goodIn_r _ [18, 1, 4, 19, 30, 31, 32, 33, 34, 35, 36, 37, 38, 39, 40, 41, 42, 43, 44, 45, 46, 47, 48, 49, 50, 51, 52, 53, 54, 55, 56, 57, 58, 59, 60, 61, 62, 63, 64, 65] (by decide +kernel) (by decide +kernel)
set_option maxRecDepth 20000 in
theorem gX9_readStreet_X9_nextByte : GoodIn wsX9_readStreet (wsV RX9 125 RX9 yX9_nextByte wsX9_nextByte) := goodIn_app (goodIn_of _ (by decide +kernel)) ggX9_readStreet_X9_nextByte
set_option maxRecDepth 20000 in
theorem ggX9_readStreet_X9_kindOf : GoodIn wsX9_readStreet wsX9_kindOf := goodIn_r _ [29] (by decide +kernel) (by decide +kernel)
set_option maxRecDepth 20000 in
theorem gX9_readStreet_X9_kindOf : GoodIn wsX9_readStreet (va_wsS RX9 144 yX9_kindOf wsX9_kindOf) := goodIn_app (goodIn_of _ (by decide +kernel)) ggX9_readStreet_X9_kindOf
set_option maxRecDepth 20000 in
theorem ggX9_readStreet_X9_byteAt : GoodIn wsX9_readStreet wsX9_byteAt := goodIn_r _ [23, 1, 4, 19, 30, 31, 32, 33, 34, 35, 36, 37, 38, 39, 40, 41, 42, 43, 44, 45, 46, 47, 48, 49, 50, 51, 52, 53, 54, 55, 56, 57, 58, 59, 60, 61, 62, 63, 64, 65] (by decide +kernel) (by decide +kernel)
set_option maxRecDepth 20000 in
theorem gX9_readStreet_X9_byteAt : GoodIn wsX9_readStreet (wsV RX9 128 RX9 yX9_byteAt wsX9_byteAt) := goodIn_app (goodIn_of _ (by decide +kernel)) ggX9_readStreet_X9_byteAt
set_option maxRecDepth 20000 in
theorem ggX9_readStreet_X9_in : GoodIn wsX9_readStreet wsX9_in := goodIn_r _ [26] (by decide +kernel) (by decide +kernel)
set_option maxRecDepth 20000 in
theorem gX9_readStreet_X9_in : GoodIn wsX9_readStreet (va_wsS RX9 98 yX9_in wsX9_in) := goodIn_app (goodIn_of _ (by decide +kernel)) ggX9_readStreet_X9_in
theorem dX9_readStreet_0 : decode cX9_readStreet 0 = .ok (.aload_n 0, 1) := by decide +kernel
theorem dX9_readStreet_1 : decode cX9_readStreet 1 = .ok (.iconst 0, 1) := by decide +kernel
theorem dX9_readStreet_2 : decode cX9_readStreet 2 = .ok (.putfield 122, 3) := by decide +kernel
theorem dX9_readStreet_5 : decode cX9_readStreet 5 = .ok (.aload_n 0, 1) := by decide +kernel
theorem dX9_readStreet_6 : decode cX9_readStreet 6 = .ok (.iconst 0, 1) := by decide +kernel
theorem dX9_readStreet_7 : decode cX9_readStreet 7 = .ok (.putfield 135, 3) := by decide +kernel
theorem dX9_readStreet_10 : decode cX9_readStreet 10 = .ok (.aload_n 0, 1) := by decide +kernel
theorem dX9_readStreet_11 : decode cX9_readStreet 11 = .ok (.iconst 0, 1) := by decide +kernel
theorem dX9_readStreet_12 : decode cX9_readStreet 12 = .ok (.putfield 138, 3) := by decide +kernel
theorem dX9_readStreet_15 : decode cX9_readStreet 15 = .ok (.aload_n 0, 1) := by decide +kernel
theorem dX9_readStreet_16 : decode cX9_readStreet 16 = .ok (.iload_n 1, 1) := by decide +kernel
theorem dX9_readStreet_17 : decode cX9_readStreet 17 = .ok (.invokevirtual 141, 3) := by decide +kernel
theorem dX9_readStreet_20 : decode cX9_readStreet 20 = .ok (.ifCond .ne 5, 3) := by decide +kernel
theorem dX9_readStreet_23 : decode cX9_readStreet 23 = .ok (.iconst 0, 1) := by decide +kernel
theorem dX9_readStreet_24 : decode cX9_readStreet 24 = .ok (.ireturn, 1) := by decide +kernel
theorem dX9_readStreet_25 : decode cX9_readStreet 25 = .ok (.aload_n 0, 1) := by decide +kernel
theorem dX9_readStreet_26 : decode cX9_readStreet 26 = .ok (.iload_n 1, 1) := by decide +kernel
theorem dX9_readStreet_27 : decode cX9_readStreet 27 = .ok (.invokevirtual 125, 3) := by decide +kernel
theorem dX9_readStreet_30 : decode cX9_readStreet 30 = .ok (.bipush (-9), 2) := by decide +kernel
theorem dX9_readStreet_32 : decode cX9_readStreet 32 = .ok (.if_icmp .ne 16, 3) := by decide +kernel
theorem dX9_readStreet_35 : decode cX9_readStreet 35 = .ok (.aload_n 0, 1) := by decide +kernel
theorem dX9_readStreet_36 : decode cX9_readStreet 36 = .ok (.getfield 122, 3) := by decide +kernel
theorem dX9_readStreet_39 : decode cX9_readStreet 39 = .ok (.aload_n 0, 1) := by decide +kernel
theorem dX9_readStreet_40 : decode cX9_readStreet 40 = .ok (.getfield 16, 3) := by decide +kernel
theorem dX9_readStreet_43 : decode cX9_readStreet 43 = .ok (.iload_n 1, 1) := by decide +kernel
theorem dX9_readStreet_44 : decode cX9_readStreet 44 = .ok (.iaload, 1) := by decide +kernel
theorem dX9_readStreet_45 : decode cX9_readStreet 45 = .ok (.if_icmp .ge 112, 3) := by decide +kernel
theorem dX9_readStreet_48 : decode cX9_readStreet 48 = .ok (.aload_n 0, 1) := by decide +kernel
theorem dX9_readStreet_49 : decode cX9_readStreet 49 = .ok (.iload_n 1, 1) := by decide +kernel
theorem dX9_readStreet_50 : decode cX9_readStreet 50 = .ok (.invokevirtual 125, 3) := by decide +kernel
theorem dX9_readStreet_53 : decode cX9_readStreet 53 = .ok (.invokestatic 144, 3) := by decide +kernel
theorem dX9_readStreet_56 : decode cX9_readStreet 56 = .ok (.istore_n 2, 1) := by decide +kernel
theorem dX9_readStreet_57 : decode cX9_readStreet 57 = .ok (.iload_n 2, 1) := by decide +kernel
theorem dX9_readStreet_58 : decode cX9_readStreet 58 = .ok (.ifCond .lt 12, 3) := by decide +kernel
theorem dX9_readStreet_61 : decode cX9_readStreet 61 = .ok (.aload_n 0, 1) := by decide +kernel
theorem dX9_readStreet_62 : decode cX9_readStreet 62 = .ok (.getfield 138, 3) := by decide +kernel
theorem dX9_readStreet_65 : decode cX9_readStreet 65 = .ok (.bipush 7, 2) := by decide +kernel
theorem dX9_readStreet_67 : decode cX9_readStreet 67 = .ok (.if_icmp .ne 5, 3) := by decide +kernel
theorem dX9_readStreet_70 : decode cX9_readStreet 70 = .ok (.iconst 0, 1) := by decide +kernel
theorem dX9_readStreet_71 : decode cX9_readStreet 71 = .ok (.ireturn, 1) := by decide +kernel
theorem dX9_readStreet_72 : decode cX9_readStreet 72 = .ok (.aload_n 0, 1) := by decide +kernel
theorem dX9_readStreet_73 : decode cX9_readStreet 73 = .ok (.dup, 1) := by decide +kernel
theorem dX9_readStreet_74 : decode cX9_readStreet 74 = .ok (.getfield 122, 3) := by decide +kernel
theorem dX9_readStreet_77 : decode cX9_readStreet 77 = .ok (.iconst 1, 1) := by decide +kernel
theorem dX9_readStreet_78 : decode cX9_readStreet 78 = .ok (.iadd, 1) := by decide +kernel
theorem dX9_readStreet_79 : decode cX9_readStreet 79 = .ok (.putfield 122, 3) := by decide +kernel
theorem dX9_readStreet_82 : decode cX9_readStreet 82 = .ok (.aload_n 0, 1) := by decide +kernel
theorem dX9_readStreet_83 : decode cX9_readStreet 83 = .ok (.iload_n 1, 1) := by decide +kernel
theorem dX9_readStreet_84 : decode cX9_readStreet 84 = .ok (.invokevirtual 128, 3) := by decide +kernel
theorem dX9_readStreet_87 : decode cX9_readStreet 87 = .ok (.i2l, 1) := by decide +kernel
theorem dX9_readStreet_88 : decode cX9_readStreet 88 = .ok (.ldc2_w 131, 3) := by decide +kernel
theorem dX9_readStreet_91 : decode cX9_readStreet 91 = .ok (.bipush 48, 2) := by decide +kernel
theorem dX9_readStreet_93 : decode cX9_readStreet 93 = .ok (.aload_n 0, 1) := by decide +kernel
theorem dX9_readStreet_94 : decode cX9_readStreet 94 = .ok (.getfield 135, 3) := by decide +kernel
theorem dX9_readStreet_97 : decode cX9_readStreet 97 = .ok (.iadd, 1) := by decide +kernel
theorem dX9_readStreet_98 : decode cX9_readStreet 98 = .ok (.i2l, 1) := by decide +kernel
theorem dX9_readStreet_99 : decode cX9_readStreet 99 = .ok (.invokestatic 98, 3) := by decide +kernel
theorem dX9_readStreet_102 : decode cX9_readStreet 102 = .ok (.ifCond .ne 5, 3) := by decide +kernel
theorem dX9_readStreet_105 : decode cX9_readStreet 105 = .ok (.iconst 0, 1) := by decide +kernel
theorem dX9_readStreet_106 : decode cX9_readStreet 106 = .ok (.ireturn, 1) := by decide +kernel
theorem dX9_readStreet_107 : decode cX9_readStreet 107 = .ok (.aload_n 0, 1) := by decide +kernel
theorem dX9_readStreet_108 : decode cX9_readStreet 108 = .ok (.getfield 58, 3) := by decide +kernel
theorem dX9_readStreet_111 : decode cX9_readStreet 111 = .ok (.aload_n 0, 1) := by decide +kernel
theorem dX9_readStreet_112 : decode cX9_readStreet 112 = .ok (.getfield 138, 3) := by decide +kernel
theorem dX9_readStreet_115 : decode cX9_readStreet 115 = .ok (.iload_n 2, 1) := by decide +kernel
theorem dX9_readStreet_116 : decode cX9_readStreet 116 = .ok (.iastore, 1) := by decide +kernel
theorem dX9_readStreet_117 : decode cX9_readStreet 117 = .ok (.aload_n 0, 1) := by decide +kernel
theorem dX9_readStreet_118 : decode cX9_readStreet 118 = .ok (.getfield 61, 3) := by decide +kernel
theorem dX9_readStreet_121 : decode cX9_readStreet 121 = .ok (.aload_n 0, 1) := by decide +kernel
theorem dX9_readStreet_122 : decode cX9_readStreet 122 = .ok (.getfield 138, 3) := by decide +kernel
theorem dX9_readStreet_125 : decode cX9_readStreet 125 = .ok (.aload_n 0, 1) := by decide +kernel
theorem dX9_readStreet_126 : decode cX9_readStreet 126 = .ok (.iload_n 1, 1) := by decide +kernel
theorem dX9_readStreet_127 : decode cX9_readStreet 127 = .ok (.invokevirtual 128, 3) := by decide +kernel
theorem dX9_readStreet_130 : decode cX9_readStreet 130 = .ok (.bipush 48, 2) := by decide +kernel
theorem dX9_readStreet_132 : decode cX9_readStreet 132 = .ok (.isub, 1) := by decide +kernel
theorem dX9_readStreet_133 : decode cX9_readStreet 133 = .ok (.iastore, 1) := by decide +kernel
theorem dX9_readStreet_134 : decode cX9_readStreet 134 = .ok (.aload_n 0, 1) := by decide +kernel
theorem dX9_readStreet_135 : decode cX9_readStreet 135 = .ok (.dup, 1) := by decide +kernel
theorem dX9_readStreet_136 : decode cX9_readStreet 136 = .ok (.getfield 138, 3) := by decide +kernel
theorem dX9_readStreet_139 : decode cX9_readStreet 139 = .ok (.iconst 1, 1) := by decide +kernel
theorem dX9_readStreet_140 : decode cX9_readStreet 140 = .ok (.iadd, 1) := by decide +kernel
theorem dX9_readStreet_141 : decode cX9_readStreet 141 = .ok (.putfield 138, 3) := by decide +kernel
theorem dX9_readStreet_144 : decode cX9_readStreet 144 = .ok (.aload_n 0, 1) := by decide +kernel
theorem dX9_readStreet_145 : decode cX9_readStreet 145 = .ok (.dup, 1) := by decide +kernel
theorem dX9_readStreet_146 : decode cX9_readStreet 146 = .ok (.getfield 122, 3) := by decide +kernel
theorem dX9_readStreet_149 : decode cX9_readStreet 149 = .ok (.iconst 1, 1) := by decide +kernel
theorem dX9_readStreet_150 : decode cX9_readStreet 150 = .ok (.iadd, 1) := by decide +kernel
theorem dX9_readStreet_151 : decode cX9_readStreet 151 = .ok (.putfield 122, 3) := by decide +kernel
theorem dX9_readStreet_154 : decode cX9_readStreet 154 = .ok (.goto (-129), 3) := by decide +kernel
theorem dX9_readStreet_157 : decode cX9_readStreet 157 = .ok (.iconst 1, 1) := by decide +kernel
theorem dX9_readStreet_158 : decode cX9_readStreet 158 = .ok (.ireturn, 1) := by decide +kernel
set_option maxRecDepth 20000 in
theorem ggX9_fault_X9_isText : GoodIn wsX9_fault wsX9_isText := goodIn_r _ [6, 7, 8, 9, 5, 10] (by decide +kernel) (by decide +kernel)
set_option maxRecDepth 20000 in
theorem gX9_fault_X9_isText : GoodIn wsX9_fault (va_wsS RX9 119 yX9_isText wsX9_isText) := goodIn_app (goodIn_of _ (by decide +kernel)) ggX9_fault_X9_isText
set_option maxRecDepth 20000 in
theorem ggX9_fault_X9_find : GoodIn wsX9_fault wsX9_find := goodIn_r _ [14, 15, 16, 44, 45, 46, 47, 48, 49, 50, 51, 52, 53, 54, 55, 56, 57, 58, 59, 60, 61, 62, 63, 64, 65, 66, 67, 68, 69, 70, 71, 72, 73, 74, 75, 76, 77, 78, 79] (by decide +kernel) (by decide +kernel)
set_option maxRecDepth 20000 in
theorem gX9_fault_X9_find : GoodIn wsX9_fault (wsV RX9 108 RX9 yX9_find wsX9_find) := goodIn_app (goodIn_of _ (by decide +kernel)) ggX9_fault_X9_find
set_option maxRecDepth 20000 in
theorem ggX9_fault_X9_readStreet : GoodIn wsX9_fault wsX9_readStreet := goodIn_r _ [20, 2, 21, 22, 1, 23, 24, 25, 26, 27, 28, 5, 29, 30, 31, 32, 33, 34, 35, 36, 37, 38, 39, 40, 8, 9, 10, 41, 42, 43, 44, 45, 46, 47, 48, 49, 50, 51, 52, 53, 54, 55, 56, 57, 58, 59, 60, 61, 62, 63, 64, 65, 66, 67, 68, 69, 70, 71, 72, 73, 74, 75, 76, 77, 78, 79] (by decide +kernel) (by decide +kernel)
set_option maxRecDepth 20000 in
theorem gX9_fault_X9_readStreet : GoodIn wsX9_fault (wsV RX9 147 RX9 yX9_readStreet wsX9_readStreet) := goodIn_app (goodIn_of _ (by decide +kernel)) ggX9_fault_X9_readStreet
theorem dX9_fault_0 : decode cX9_fault 0 = .ok (.iload_n 1, 1) := by decide +kernel
theorem dX9_fault_1 : decode cX9_fault 1 = .ok (.invokestatic 119, 3) := by decide +kernel
theorem dX9_fault_4 : decode cX9_fault 4 = .ok (.ifCond .ne 5, 3) := by decide +kernel
theorem dX9_fault_7 : decode cX9_fault 7 = .ok (.iconst (-1), 1) := by decide +kernel
theorem dX9_fault_8 : decode cX9_fault 8 = .ok (.ireturn, 1) := by decide +kernel
theorem dX9_fault_9 : decode cX9_fault 9 = .ok (.aload_n 0, 1) := by decide +kernel
theorem dX9_fault_10 : decode cX9_fault 10 = .ok (.getfield 16, 3) := by decide +kernel
theorem dX9_fault_13 : decode cX9_fault 13 = .ok (.iload_n 1, 1) := by decide +kernel
theorem dX9_fault_14 : decode cX9_fault 14 = .ok (.iaload, 1) := by decide +kernel
theorem dX9_fault_15 : decode cX9_fault 15 = .ok (.ifCond .ge 9, 3) := by decide +kernel
theorem dX9_fault_18 : decode cX9_fault 18 = .ok (.aload_n 0, 1) := by decide +kernel
theorem dX9_fault_19 : decode cX9_fault 19 = .ok (.iconst 1, 1) := by decide +kernel
theorem dX9_fault_20 : decode cX9_fault 20 = .ok (.invokevirtual 108, 3) := by decide +kernel
theorem dX9_fault_23 : decode cX9_fault 23 = .ok (.ireturn, 1) := by decide +kernel
theorem dX9_fault_24 : decode cX9_fault 24 = .ok (.aload_n 0, 1) := by decide +kernel
theorem dX9_fault_25 : decode cX9_fault 25 = .ok (.iload_n 1, 1) := by decide +kernel
theorem dX9_fault_26 : decode cX9_fault 26 = .ok (.invokevirtual 147, 3) := by decide +kernel
theorem dX9_fault_29 : decode cX9_fault 29 = .ok (.ifCond .eq 8, 3) := by decide +kernel
theorem dX9_fault_32 : decode cX9_fault 32 = .ok (.bipush (-9), 2) := by decide +kernel
theorem dX9_fault_34 : decode cX9_fault 34 = .ok (.goto 7, 3) := by decide +kernel
theorem dX9_fault_37 : decode cX9_fault 37 = .ok (.aload_n 0, 1) := by decide +kernel
theorem dX9_fault_38 : decode cX9_fault 38 = .ok (.getfield 122, 3) := by decide +kernel
theorem dX9_fault_41 : decode cX9_fault 41 = .ok (.ireturn, 1) := by decide +kernel
set_option maxRecDepth 20000 in
theorem ggX9_street_X9_isText : GoodIn wsX9_street wsX9_isText := goodIn_r _ [19, 20, 21, 22, 18, 23] (by decide +kernel) (by decide +kernel)
set_option maxRecDepth 20000 in
theorem gX9_street_X9_isText : GoodIn wsX9_street (va_wsS RX9 119 yX9_isText wsX9_isText) := goodIn_app (goodIn_of _ (by decide +kernel)) ggX9_street_X9_isText
set_option maxRecDepth 20000 in
theorem ggX9_street_X9_find : GoodIn wsX9_street wsX9_find := goodIn_r _ [27, 28, 29, 53, 54, 55, 56, 57, 58, 59, 60, 61, 62, 63, 64, 65, 66, 67, 68, 69, 70, 71, 72, 73, 74, 75, 76, 77, 78, 79, 80, 81, 82, 83, 84, 85, 86, 87, 88] (by decide +kernel) (by decide +kernel)
set_option maxRecDepth 20000 in
theorem gX9_street_X9_find : GoodIn wsX9_street (wsV RX9 108 RX9 yX9_find wsX9_find) := goodIn_app (goodIn_of _ (by decide +kernel)) ggX9_street_X9_find
set_option maxRecDepth 20000 in
theorem ggX9_street_X9_readStreet : GoodIn wsX9_street wsX9_readStreet := goodIn_r _ [33, 34, 2, 4, 1, 35, 11, 13, 36, 37, 38, 18, 39, 40, 9, 41, 42, 43, 44, 45, 46, 47, 48, 49, 21, 22, 23, 50, 51, 52, 53, 54, 55, 56, 57, 58, 59, 60, 61, 62, 63, 64, 65, 66, 67, 68, 69, 70, 71, 72, 73, 74, 75, 76, 77, 78, 79, 80, 81, 82, 83, 84, 85, 86, 87, 88] (by decide +kernel) (by decide +kernel)
set_option maxRecDepth 20000 in
theorem gX9_street_X9_readStreet : GoodIn wsX9_street (wsV RX9 147 RX9 yX9_readStreet wsX9_readStreet) := goodIn_app (goodIn_of _ (by decide +kernel)) ggX9_street_X9_readStreet
theorem dX9_street_0 : decode cX9_street 0 = .ok (.iload_n 1, 1) := by decide +kernel
theorem dX9_street_1 : decode cX9_street 1 = .ok (.invokestatic 119, 3) := by decide +kernel
theorem dX9_street_4 : decode cX9_street 4 = .ok (.ifCond .ne 5, 3) := by decide +kernel
theorem dX9_street_7 : decode cX9_street 7 = .ok (.iconst (-1), 1) := by decide +kernel
theorem dX9_street_8 : decode cX9_street 8 = .ok (.ireturn, 1) := by decide +kernel
theorem dX9_street_9 : decode cX9_street 9 = .ok (.aload_n 0, 1) := by decide +kernel
theorem dX9_street_10 : decode cX9_street 10 = .ok (.getfield 16, 3) := by decide +kernel
theorem dX9_street_13 : decode cX9_street 13 = .ok (.iload_n 1, 1) := by decide +kernel
theorem dX9_street_14 : decode cX9_street 14 = .ok (.iaload, 1) := by decide +kernel
theorem dX9_street_15 : decode cX9_street 15 = .ok (.ifCond .ge 9, 3) := by decide +kernel
theorem dX9_street_18 : decode cX9_street 18 = .ok (.aload_n 0, 1) := by decide +kernel
theorem dX9_street_19 : decode cX9_street 19 = .ok (.iconst 1, 1) := by decide +kernel
theorem dX9_street_20 : decode cX9_street 20 = .ok (.invokevirtual 108, 3) := by decide +kernel
theorem dX9_street_23 : decode cX9_street 23 = .ok (.ireturn, 1) := by decide +kernel
theorem dX9_street_24 : decode cX9_street 24 = .ok (.aload_n 0, 1) := by decide +kernel
theorem dX9_street_25 : decode cX9_street 25 = .ok (.iload_n 1, 1) := by decide +kernel
theorem dX9_street_26 : decode cX9_street 26 = .ok (.invokevirtual 147, 3) := by decide +kernel
theorem dX9_street_29 : decode cX9_street 29 = .ok (.ifCond .ne 6, 3) := by decide +kernel
theorem dX9_street_32 : decode cX9_street 32 = .ok (.bipush (-4), 2) := by decide +kernel
theorem dX9_street_34 : decode cX9_street 34 = .ok (.ireturn, 1) := by decide +kernel
theorem dX9_street_35 : decode cX9_street 35 = .ok (.aload_n 0, 1) := by decide +kernel
theorem dX9_street_36 : decode cX9_street 36 = .ok (.aload_n 0, 1) := by decide +kernel
theorem dX9_street_37 : decode cX9_street 37 = .ok (.getfield 135, 3) := by decide +kernel
theorem dX9_street_40 : decode cX9_street 40 = .ok (.putfield 150, 3) := by decide +kernel
theorem dX9_street_43 : decode cX9_street 43 = .ok (.aload_n 0, 1) := by decide +kernel
theorem dX9_street_44 : decode cX9_street 44 = .ok (.aload_n 0, 1) := by decide +kernel
theorem dX9_street_45 : decode cX9_street 45 = .ok (.getfield 138, 3) := by decide +kernel
theorem dX9_street_48 : decode cX9_street 48 = .ok (.putfield 153, 3) := by decide +kernel
theorem dX9_street_51 : decode cX9_street 51 = .ok (.aload_n 0, 1) := by decide +kernel
theorem dX9_street_52 : decode cX9_street 52 = .ok (.iconst 0, 1) := by decide +kernel
theorem dX9_street_53 : decode cX9_street 53 = .ok (.putfield 156, 3) := by decide +kernel
theorem dX9_street_56 : decode cX9_street 56 = .ok (.aload_n 0, 1) := by decide +kernel
theorem dX9_street_57 : decode cX9_street 57 = .ok (.iconst 0, 1) := by decide +kernel
theorem dX9_street_58 : decode cX9_street 58 = .ok (.putfield 159, 3) := by decide +kernel
theorem dX9_street_61 : decode cX9_street 61 = .ok (.iconst 0, 1) := by decide +kernel
theorem dX9_street_62 : decode cX9_street 62 = .ok (.istore_n 2, 1) := by decide +kernel
theorem dX9_street_63 : decode cX9_street 63 = .ok (.iload_n 2, 1) := by decide +kernel
theorem dX9_street_64 : decode cX9_street 64 = .ok (.aload_n 0, 1) := by decide +kernel
theorem dX9_street_65 : decode cX9_street 65 = .ok (.getfield 150, 3) := by decide +kernel
theorem dX9_street_68 : decode cX9_street 68 = .ok (.if_icmp .ge 21, 3) := by decide +kernel
theorem dX9_street_71 : decode cX9_street 71 = .ok (.aload_n 0, 1) := by decide +kernel
theorem dX9_street_72 : decode cX9_street 72 = .ok (.getfield 28, 3) := by decide +kernel
theorem dX9_street_75 : decode cX9_street 75 = .ok (.iload_n 2, 1) := by decide +kernel
theorem dX9_street_76 : decode cX9_street 76 = .ok (.aload_n 0, 1) := by decide +kernel
theorem dX9_street_77 : decode cX9_street 77 = .ok (.getfield 55, 3) := by decide +kernel
theorem dX9_street_80 : decode cX9_street 80 = .ok (.iload_n 2, 1) := by decide +kernel
theorem dX9_street_81 : decode cX9_street 81 = .ok (.iaload, 1) := by decide +kernel
theorem dX9_street_82 : decode cX9_street 82 = .ok (.iastore, 1) := by decide +kernel
theorem dX9_street_83 : decode cX9_street 83 = .ok (.iinc 2 1, 3) := by decide +kernel
theorem dX9_street_86 : decode cX9_street 86 = .ok (.goto (-23), 3) := by decide +kernel
theorem dX9_street_89 : decode cX9_street 89 = .ok (.iconst 0, 1) := by decide +kernel
theorem dX9_street_90 : decode cX9_street 90 = .ok (.istore_n 2, 1) := by decide +kernel
theorem dX9_street_91 : decode cX9_street 91 = .ok (.iload_n 2, 1) := by decide +kernel
theorem dX9_street_92 : decode cX9_street 92 = .ok (.aload_n 0, 1) := by decide +kernel
theorem dX9_street_93 : decode cX9_street 93 = .ok (.getfield 153, 3) := by decide +kernel
theorem dX9_street_96 : decode cX9_street 96 = .ok (.if_icmp .ge 33, 3) := by decide +kernel
theorem dX9_street_99 : decode cX9_street 99 = .ok (.aload_n 0, 1) := by decide +kernel
theorem dX9_street_100 : decode cX9_street 100 = .ok (.getfield 22, 3) := by decide +kernel
theorem dX9_street_103 : decode cX9_street 103 = .ok (.iload_n 2, 1) := by decide +kernel
theorem dX9_street_104 : decode cX9_street 104 = .ok (.aload_n 0, 1) := by decide +kernel
theorem dX9_street_105 : decode cX9_street 105 = .ok (.getfield 58, 3) := by decide +kernel
theorem dX9_street_108 : decode cX9_street 108 = .ok (.iload_n 2, 1) := by decide +kernel
theorem dX9_street_109 : decode cX9_street 109 = .ok (.iaload, 1) := by decide +kernel
theorem dX9_street_110 : decode cX9_street 110 = .ok (.iastore, 1) := by decide +kernel
theorem dX9_street_111 : decode cX9_street 111 = .ok (.aload_n 0, 1) := by decide +kernel
theorem dX9_street_112 : decode cX9_street 112 = .ok (.getfield 25, 3) := by decide +kernel
theorem dX9_street_115 : decode cX9_street 115 = .ok (.iload_n 2, 1) := by decide +kernel
theorem dX9_street_116 : decode cX9_street 116 = .ok (.aload_n 0, 1) := by decide +kernel
theorem dX9_street_117 : decode cX9_street 117 = .ok (.getfield 61, 3) := by decide +kernel
theorem dX9_street_120 : decode cX9_street 120 = .ok (.iload_n 2, 1) := by decide +kernel
theorem dX9_street_121 : decode cX9_street 121 = .ok (.iaload, 1) := by decide +kernel
theorem dX9_street_122 : decode cX9_street 122 = .ok (.iastore, 1) := by decide +kernel
theorem dX9_street_123 : decode cX9_street 123 = .ok (.iinc 2 1, 3) := by decide +kernel
theorem dX9_street_126 : decode cX9_street 126 = .ok (.goto (-35), 3) := by decide +kernel
theorem dX9_street_129 : decode cX9_street 129 = .ok (.iconst 0, 1) := by decide +kernel
theorem dX9_street_130 : decode cX9_street 130 = .ok (.istore_n 2, 1) := by decide +kernel
theorem dX9_street_131 : decode cX9_street 131 = .ok (.iload_n 2, 1) := by decide +kernel
theorem dX9_street_132 : decode cX9_street 132 = .ok (.bipush 8, 2) := by decide +kernel
theorem dX9_street_134 : decode cX9_street 134 = .ok (.if_icmp .ge 16, 3) := by decide +kernel
theorem dX9_street_137 : decode cX9_street 137 = .ok (.aload_n 0, 1) := by decide +kernel
theorem dX9_street_138 : decode cX9_street 138 = .ok (.getfield 34, 3) := by decide +kernel
theorem dX9_street_141 : decode cX9_street 141 = .ok (.iload_n 2, 1) := by decide +kernel
theorem dX9_street_142 : decode cX9_street 142 = .ok (.iconst 0, 1) := by decide +kernel
theorem dX9_street_143 : decode cX9_street 143 = .ok (.iastore, 1) := by decide +kernel
theorem dX9_street_144 : decode cX9_street 144 = .ok (.iinc 2 1, 3) := by decide +kernel
theorem dX9_street_147 : decode cX9_street 147 = .ok (.goto (-16), 3) := by decide +kernel
theorem dX9_street_150 : decode cX9_street 150 = .ok (.iconst 0, 1) := by decide +kernel
theorem dX9_street_151 : decode cX9_street 151 = .ok (.istore_n 2, 1) := by decide +kernel
theorem dX9_street_152 : decode cX9_street 152 = .ok (.iload_n 2, 1) := by decide +kernel
theorem dX9_street_153 : decode cX9_street 153 = .ok (.iconst 3, 1) := by decide +kernel
theorem dX9_street_154 : decode cX9_street 154 = .ok (.if_icmp .ge 16, 3) := by decide +kernel
theorem dX9_street_157 : decode cX9_street 157 = .ok (.aload_n 0, 1) := by decide +kernel
theorem dX9_street_158 : decode cX9_street 158 = .ok (.getfield 83, 3) := by decide +kernel
theorem dX9_street_161 : decode cX9_street 161 = .ok (.iload_n 2, 1) := by decide +kernel
theorem dX9_street_162 : decode cX9_street 162 = .ok (.iconst 0, 1) := by decide +kernel
theorem dX9_street_163 : decode cX9_street 163 = .ok (.bastore, 1) := by decide +kernel
theorem dX9_street_164 : decode cX9_street 164 = .ok (.iinc 2 1, 3) := by decide +kernel
theorem dX9_street_167 : decode cX9_street 167 = .ok (.goto (-15), 3) := by decide +kernel
theorem dX9_street_170 : decode cX9_street 170 = .ok (.aload_n 0, 1) := by decide +kernel
theorem dX9_street_171 : decode cX9_street 171 = .ok (.getfield 153, 3) := by decide +kernel
theorem dX9_street_174 : decode cX9_street 174 = .ok (.ireturn, 1) := by decide +kernel
set_option maxRecDepth 20000 in
theorem ggX9_isOne_X9_in : GoodIn wsX9_isOne wsX9_in := goodIn_r _ [5] (by decide +kernel) (by decide +kernel)
set_option maxRecDepth 20000 in
theorem gX9_isOne_X9_in : GoodIn wsX9_isOne (va_wsS RX9 98 yX9_in wsX9_in) := goodIn_app (goodIn_of _ (by decide +kernel)) ggX9_isOne_X9_in
theorem dX9_isOne_0 : decode cX9_isOne 0 = .ok (.iload_n 1, 1) := by decide +kernel
theorem dX9_isOne_1 : decode cX9_isOne 1 = .ok (.i2l, 1) := by decide +kernel
theorem dX9_isOne_2 : decode cX9_isOne 2 = .ok (.lconst 0, 1) := by decide +kernel
theorem dX9_isOne_3 : decode cX9_isOne 3 = .ok (.aload_n 0, 1) := by decide +kernel
theorem dX9_isOne_4 : decode cX9_isOne 4 = .ok (.getfield 153, 3) := by decide +kernel
theorem dX9_isOne_7 : decode cX9_isOne 7 = .ok (.iconst 1, 1) := by decide +kernel
theorem dX9_isOne_8 : decode cX9_isOne 8 = .ok (.isub, 1) := by decide +kernel
theorem dX9_isOne_9 : decode cX9_isOne 9 = .ok (.i2l, 1) := by decide +kernel
theorem dX9_isOne_10 : decode cX9_isOne 10 = .ok (.invokestatic 98, 3) := by decide +kernel
theorem dX9_isOne_13 : decode cX9_isOne 13 = .ok (.ireturn, 1) := by decide +kernel
set_option maxRecDepth 20000 in
theorem ggX9_isRoom_X9_in : GoodIn wsX9_isRoom wsX9_in := goodIn_r _ [5] (by decide +kernel) (by decide +kernel)
set_option maxRecDepth 20000 in
theorem gX9_isRoom_X9_in : GoodIn wsX9_isRoom (va_wsS RX9 98 yX9_in wsX9_in) := goodIn_app (goodIn_of _ (by decide +kernel)) ggX9_isRoom_X9_in
theorem dX9_isRoom_0 : decode cX9_isRoom 0 = .ok (.aload_n 0, 1) := by decide +kernel
theorem dX9_isRoom_1 : decode cX9_isRoom 1 = .ok (.getfield 150, 3) := by decide +kernel
theorem dX9_isRoom_4 : decode cX9_isRoom 4 = .ok (.ifCond .le 21, 3) := by decide +kernel
theorem dX9_isRoom_7 : decode cX9_isRoom 7 = .ok (.iload_n 1, 1) := by decide +kernel
theorem dX9_isRoom_8 : decode cX9_isRoom 8 = .ok (.i2l, 1) := by decide +kernel
theorem dX9_isRoom_9 : decode cX9_isRoom 9 = .ok (.lconst 0, 1) := by decide +kernel
theorem dX9_isRoom_10 : decode cX9_isRoom 10 = .ok (.aload_n 0, 1) := by decide +kernel
theorem dX9_isRoom_11 : decode cX9_isRoom 11 = .ok (.getfield 150, 3) := by decide +kernel
theorem dX9_isRoom_14 : decode cX9_isRoom 14 = .ok (.i2l, 1) := by decide +kernel
theorem dX9_isRoom_15 : decode cX9_isRoom 15 = .ok (.invokestatic 98, 3) := by decide +kernel
theorem dX9_isRoom_18 : decode cX9_isRoom 18 = .ok (.ifCond .eq 7, 3) := by decide +kernel
theorem dX9_isRoom_21 : decode cX9_isRoom 21 = .ok (.iconst 1, 1) := by decide +kernel
theorem dX9_isRoom_22 : decode cX9_isRoom 22 = .ok (.goto 4, 3) := by decide +kernel
theorem dX9_isRoom_25 : decode cX9_isRoom 25 = .ok (.iconst 0, 1) := by decide +kernel
theorem dX9_isRoom_26 : decode cX9_isRoom 26 = .ok (.ireturn, 1) := by decide +kernel
set_option maxRecDepth 20000 in
theorem ggX9_isSet_X9_in : GoodIn wsX9_isSet wsX9_in := goodIn_r _ [5] (by decide +kernel) (by decide +kernel)
set_option maxRecDepth 20000 in
theorem gX9_isSet_X9_in : GoodIn wsX9_isSet (va_wsS RX9 98 yX9_in wsX9_in) := goodIn_app (goodIn_of _ (by decide +kernel)) ggX9_isSet_X9_in
theorem dX9_isSet_0 : decode cX9_isSet 0 = .ok (.iload_n 1, 1) := by decide +kernel
theorem dX9_isSet_1 : decode cX9_isSet 1 = .ok (.i2l, 1) := by decide +kernel
theorem dX9_isSet_2 : decode cX9_isSet 2 = .ok (.lconst 0, 1) := by decide +kernel
theorem dX9_isSet_3 : decode cX9_isSet 3 = .ok (.iconst 1, 1) := by decide +kernel
theorem dX9_isSet_4 : decode cX9_isSet 4 = .ok (.aload_n 0, 1) := by decide +kernel
theorem dX9_isSet_5 : decode cX9_isSet 5 = .ok (.getfield 153, 3) := by decide +kernel
theorem dX9_isSet_8 : decode cX9_isSet 8 = .ok (.ishl, 1) := by decide +kernel
theorem dX9_isSet_9 : decode cX9_isSet 9 = .ok (.iconst 1, 1) := by decide +kernel
theorem dX9_isSet_10 : decode cX9_isSet 10 = .ok (.isub, 1) := by decide +kernel
theorem dX9_isSet_11 : decode cX9_isSet 11 = .ok (.i2l, 1) := by decide +kernel
theorem dX9_isSet_12 : decode cX9_isSet 12 = .ok (.invokestatic 98, 3) := by decide +kernel
theorem dX9_isSet_15 : decode cX9_isSet 15 = .ok (.ireturn, 1) := by decide +kernel
theorem dX9_speaks_0 : decode cX9_speaks 0 = .ok (.iload_n 0, 1) := by decide +kernel
theorem dX9_speaks_1 : decode cX9_speaks 1 = .ok (.iconst 1, 1) := by decide +kernel
theorem dX9_speaks_2 : decode cX9_speaks 2 = .ok (.if_icmp .eq 8, 3) := by decide +kernel
theorem dX9_speaks_5 : decode cX9_speaks 5 = .ok (.iload_n 0, 1) := by decide +kernel
theorem dX9_speaks_6 : decode cX9_speaks 6 = .ok (.iconst 4, 1) := by decide +kernel
theorem dX9_speaks_7 : decode cX9_speaks 7 = .ok (.if_icmp .ne 8, 3) := by decide +kernel
theorem dX9_speaks_10 : decode cX9_speaks 10 = .ok (.bipush 8, 2) := by decide +kernel
theorem dX9_speaks_12 : decode cX9_speaks 12 = .ok (.goto 18, 3) := by decide +kernel
theorem dX9_speaks_15 : decode cX9_speaks 15 = .ok (.iload_n 0, 1) := by decide +kernel
theorem dX9_speaks_16 : decode cX9_speaks 16 = .ok (.iconst 2, 1) := by decide +kernel
theorem dX9_speaks_17 : decode cX9_speaks 17 = .ok (.if_icmp .eq 8, 3) := by decide +kernel
theorem dX9_speaks_20 : decode cX9_speaks 20 = .ok (.iload_n 0, 1) := by decide +kernel
theorem dX9_speaks_21 : decode cX9_speaks 21 = .ok (.iconst 5, 1) := by decide +kernel
theorem dX9_speaks_22 : decode cX9_speaks 22 = .ok (.if_icmp .ne 7, 3) := by decide +kernel
theorem dX9_speaks_25 : decode cX9_speaks 25 = .ok (.iconst 2, 1) := by decide +kernel
theorem dX9_speaks_26 : decode cX9_speaks 26 = .ok (.goto 4, 3) := by decide +kernel
theorem dX9_speaks_29 : decode cX9_speaks 29 = .ok (.iconst 5, 1) := by decide +kernel
theorem dX9_speaks_30 : decode cX9_speaks 30 = .ok (.ireturn, 1) := by decide +kernel
set_option maxRecDepth 20000 in
theorem ggX9_sings_X9_speaks : GoodIn wsX9_sings wsX9_speaks := goodIn_r _ [4] (by decide +kernel) (by decide +kernel)
set_option maxRecDepth 20000 in
theorem gX9_sings_X9_speaks : GoodIn wsX9_sings (va_wsS RX9 162 yX9_speaks wsX9_speaks) := goodIn_app (goodIn_of _ (by decide +kernel)) ggX9_sings_X9_speaks
theorem dX9_sings_0 : decode cX9_sings 0 = .ok (.iload_n 0, 1) := by decide +kernel
theorem dX9_sings_1 : decode cX9_sings 1 = .ok (.iconst 4, 1) := by decide +kernel
theorem dX9_sings_2 : decode cX9_sings 2 = .ok (.if_icmp .ne 8, 3) := by decide +kernel
theorem dX9_sings_5 : decode cX9_sings 5 = .ok (.bipush 10, 2) := by decide +kernel
theorem dX9_sings_7 : decode cX9_sings 7 = .ok (.goto 7, 3) := by decide +kernel
theorem dX9_sings_10 : decode cX9_sings 10 = .ok (.iload_n 0, 1) := by decide +kernel
theorem dX9_sings_11 : decode cX9_sings 11 = .ok (.invokestatic 162, 3) := by decide +kernel
theorem dX9_sings_14 : decode cX9_sings 14 = .ok (.ireturn, 1) := by decide +kernel
theorem dX9_between_0 : decode cX9_between 0 = .ok (.iload_n 1, 1) := by decide +kernel
theorem dX9_between_1 : decode cX9_between 1 = .ok (.iload_n 2, 1) := by decide +kernel
theorem dX9_between_2 : decode cX9_between 2 = .ok (.if_icmp .ge 7, 3) := by decide +kernel
theorem dX9_between_5 : decode cX9_between 5 = .ok (.iload_n 1, 1) := by decide +kernel
theorem dX9_between_6 : decode cX9_between 6 = .ok (.goto 4, 3) := by decide +kernel
theorem dX9_between_9 : decode cX9_between 9 = .ok (.iload_n 2, 1) := by decide +kernel
theorem dX9_between_10 : decode cX9_between 10 = .ok (.istore_n 3, 1) := by decide +kernel
theorem dX9_between_11 : decode cX9_between 11 = .ok (.iload_n 1, 1) := by decide +kernel
theorem dX9_between_12 : decode cX9_between 12 = .ok (.iload_n 2, 1) := by decide +kernel
theorem dX9_between_13 : decode cX9_between 13 = .ok (.if_icmp .ge 7, 3) := by decide +kernel
theorem dX9_between_16 : decode cX9_between 16 = .ok (.iload_n 2, 1) := by decide +kernel
theorem dX9_between_17 : decode cX9_between 17 = .ok (.goto 4, 3) := by decide +kernel
theorem dX9_between_20 : decode cX9_between 20 = .ok (.iload_n 1, 1) := by decide +kernel
theorem dX9_between_21 : decode cX9_between 21 = .ok (.istore 4, 2) := by decide +kernel
theorem dX9_between_23 : decode cX9_between 23 = .ok (.iconst 0, 1) := by decide +kernel
theorem dX9_between_24 : decode cX9_between 24 = .ok (.istore 5, 2) := by decide +kernel
theorem dX9_between_26 : decode cX9_between 26 = .ok (.iload_n 3, 1) := by decide +kernel
theorem dX9_between_27 : decode cX9_between 27 = .ok (.istore 6, 2) := by decide +kernel
theorem dX9_between_29 : decode cX9_between 29 = .ok (.iload 6, 2) := by decide +kernel
theorem dX9_between_31 : decode cX9_between 31 = .ok (.iload 4, 2) := by decide +kernel
theorem dX9_between_33 : decode cX9_between 33 = .ok (.if_icmp .ge 21, 3) := by decide +kernel
theorem dX9_between_36 : decode cX9_between 36 = .ok (.iload 5, 2) := by decide +kernel
theorem dX9_between_38 : decode cX9_between 38 = .ok (.aload_n 0, 1) := by decide +kernel
theorem dX9_between_39 : decode cX9_between 39 = .ok (.getfield 28, 3) := by decide +kernel
theorem dX9_between_42 : decode cX9_between 42 = .ok (.iload 6, 2) := by decide +kernel
theorem dX9_between_44 : decode cX9_between 44 = .ok (.iaload, 1) := by decide +kernel
theorem dX9_between_45 : decode cX9_between 45 = .ok (.iadd, 1) := by decide +kernel
theorem dX9_between_46 : decode cX9_between 46 = .ok (.istore 5, 2) := by decide +kernel
theorem dX9_between_48 : decode cX9_between 48 = .ok (.iinc 6 1, 3) := by decide +kernel
theorem dX9_between_51 : decode cX9_between 51 = .ok (.goto (-22), 3) := by decide +kernel
theorem dX9_between_54 : decode cX9_between 54 = .ok (.iload 5, 2) := by decide +kernel
theorem dX9_between_56 : decode cX9_between 56 = .ok (.ireturn, 1) := by decide +kernel
set_option maxRecDepth 20000 in
theorem ggX9_noiseIn_X9_has : GoodIn wsX9_noiseIn wsX9_has := goodIn_r _ [7] (by decide +kernel) (by decide +kernel)
set_option maxRecDepth 20000 in
theorem gX9_noiseIn_X9_has : GoodIn wsX9_noiseIn (va_wsS RX9 165 yX9_has wsX9_has) := goodIn_app (goodIn_of _ (by decide +kernel)) ggX9_noiseIn_X9_has
set_option maxRecDepth 20000 in
theorem ggX9_noiseIn_X9_sings : GoodIn wsX9_noiseIn wsX9_sings := goodIn_r _ [10, 11, 12, 6, 13] (by decide +kernel) (by decide +kernel)
set_option maxRecDepth 20000 in
theorem gX9_noiseIn_X9_sings : GoodIn wsX9_noiseIn (va_wsS RX9 169 yX9_sings wsX9_sings) := goodIn_app (goodIn_of _ (by decide +kernel)) ggX9_noiseIn_X9_sings
set_option maxRecDepth 20000 in
theorem ggX9_noiseIn_X9_between : GoodIn wsX9_noiseIn wsX9_between := goodIn_r _ [17, 18, 19, 20, 21, 22, 23, 24, 25, 26, 27, 28, 29, 30, 31, 32, 33, 34, 35, 36, 37, 38, 39, 40, 41, 42, 43, 44, 45, 46, 47, 48, 49, 50, 51, 52, 53, 54] (by decide +kernel) (by decide +kernel)
set_option maxRecDepth 20000 in
theorem gX9_noiseIn_X9_between : GoodIn wsX9_noiseIn (wsV RX9 172 RX9 yX9_between wsX9_between) := goodIn_app (goodIn_of _ (by decide +kernel)) ggX9_noiseIn_X9_between
theorem dX9_noiseIn_0 : decode cX9_noiseIn 0 = .ok (.iconst 0, 1) := by decide +kernel
theorem dX9_noiseIn_1 : decode cX9_noiseIn 1 = .ok (.istore_n 3, 1) := by decide +kernel
theorem dX9_noiseIn_2 : decode cX9_noiseIn 2 = .ok (.iconst 0, 1) := by decide +kernel
theorem dX9_noiseIn_3 : decode cX9_noiseIn 3 = .ok (.istore 4, 2) := by decide +kernel
theorem dX9_noiseIn_5 : decode cX9_noiseIn 5 = .ok (.iload 4, 2) := by decide +kernel
theorem dX9_noiseIn_7 : decode cX9_noiseIn 7 = .ok (.aload_n 0, 1) := by decide +kernel
theorem dX9_noiseIn_8 : decode cX9_noiseIn 8 = .ok (.getfield 153, 3) := by decide +kernel
theorem dX9_noiseIn_11 : decode cX9_noiseIn 11 = .ok (.if_icmp .ge 60, 3) := by decide +kernel
theorem dX9_noiseIn_14 : decode cX9_noiseIn 14 = .ok (.iload_n 2, 1) := by decide +kernel
theorem dX9_noiseIn_15 : decode cX9_noiseIn 15 = .ok (.iload 4, 2) := by decide +kernel
theorem dX9_noiseIn_17 : decode cX9_noiseIn 17 = .ok (.invokestatic 165, 3) := by decide +kernel
theorem dX9_noiseIn_20 : decode cX9_noiseIn 20 = .ok (.ifCond .eq 29, 3) := by decide +kernel
theorem dX9_noiseIn_23 : decode cX9_noiseIn 23 = .ok (.aload_n 0, 1) := by decide +kernel
theorem dX9_noiseIn_24 : decode cX9_noiseIn 24 = .ok (.getfield 22, 3) := by decide +kernel
theorem dX9_noiseIn_27 : decode cX9_noiseIn 27 = .ok (.iload 4, 2) := by decide +kernel
theorem dX9_noiseIn_29 : decode cX9_noiseIn 29 = .ok (.iaload, 1) := by decide +kernel
theorem dX9_noiseIn_30 : decode cX9_noiseIn 30 = .ok (.invokestatic 169, 3) := by decide +kernel
theorem dX9_noiseIn_33 : decode cX9_noiseIn 33 = .ok (.aload_n 0, 1) := by decide +kernel
theorem dX9_noiseIn_34 : decode cX9_noiseIn 34 = .ok (.aload_n 0, 1) := by decide +kernel
theorem dX9_noiseIn_35 : decode cX9_noiseIn 35 = .ok (.getfield 25, 3) := by decide +kernel
theorem dX9_noiseIn_38 : decode cX9_noiseIn 38 = .ok (.iload 4, 2) := by decide +kernel
theorem dX9_noiseIn_40 : decode cX9_noiseIn 40 = .ok (.iaload, 1) := by decide +kernel
theorem dX9_noiseIn_41 : decode cX9_noiseIn 41 = .ok (.iload_n 1, 1) := by decide +kernel
theorem dX9_noiseIn_42 : decode cX9_noiseIn 42 = .ok (.invokevirtual 172, 3) := by decide +kernel
theorem dX9_noiseIn_45 : decode cX9_noiseIn 45 = .ok (.isub, 1) := by decide +kernel
theorem dX9_noiseIn_46 : decode cX9_noiseIn 46 = .ok (.goto 4, 3) := by decide +kernel
theorem dX9_noiseIn_49 : decode cX9_noiseIn 49 = .ok (.iconst 0, 1) := by decide +kernel
theorem dX9_noiseIn_50 : decode cX9_noiseIn 50 = .ok (.istore 5, 2) := by decide +kernel
theorem dX9_noiseIn_52 : decode cX9_noiseIn 52 = .ok (.iload 5, 2) := by decide +kernel
theorem dX9_noiseIn_54 : decode cX9_noiseIn 54 = .ok (.iload_n 3, 1) := by decide +kernel
theorem dX9_noiseIn_55 : decode cX9_noiseIn 55 = .ok (.if_icmp .le 8, 3) := by decide +kernel
theorem dX9_noiseIn_58 : decode cX9_noiseIn 58 = .ok (.iload 5, 2) := by decide +kernel
theorem dX9_noiseIn_60 : decode cX9_noiseIn 60 = .ok (.goto 4, 3) := by decide +kernel
theorem dX9_noiseIn_63 : decode cX9_noiseIn 63 = .ok (.iload_n 3, 1) := by decide +kernel
theorem dX9_noiseIn_64 : decode cX9_noiseIn 64 = .ok (.istore_n 3, 1) := by decide +kernel
theorem dX9_noiseIn_65 : decode cX9_noiseIn 65 = .ok (.iinc 4 1, 3) := by decide +kernel
theorem dX9_noiseIn_68 : decode cX9_noiseIn 68 = .ok (.goto (-63), 3) := by decide +kernel
theorem dX9_noiseIn_71 : decode cX9_noiseIn 71 = .ok (.iload_n 3, 1) := by decide +kernel
theorem dX9_noiseIn_72 : decode cX9_noiseIn 72 = .ok (.ireturn, 1) := by decide +kernel
theorem dX9_isHeard_0 : decode cX9_isHeard 0 = .ok (.iload_n 0, 1) := by decide +kernel
theorem dX9_isHeard_1 : decode cX9_isHeard 1 = .ok (.iconst 5, 1) := by decide +kernel
theorem dX9_isHeard_2 : decode cX9_isHeard 2 = .ok (.if_icmp .ne 16, 3) := by decide +kernel
theorem dX9_isHeard_5 : decode cX9_isHeard 5 = .ok (.iload_n 1, 1) := by decide +kernel
theorem dX9_isHeard_6 : decode cX9_isHeard 6 = .ok (.iload_n 2, 1) := by decide +kernel
theorem dX9_isHeard_7 : decode cX9_isHeard 7 = .ok (.if_icmp .lt 7, 3) := by decide +kernel
theorem dX9_isHeard_10 : decode cX9_isHeard 10 = .ok (.iconst 1, 1) := by decide +kernel
theorem dX9_isHeard_11 : decode cX9_isHeard 11 = .ok (.goto 31, 3) := by decide +kernel
theorem dX9_isHeard_14 : decode cX9_isHeard 14 = .ok (.iconst 0, 1) := by decide +kernel
theorem dX9_isHeard_15 : decode cX9_isHeard 15 = .ok (.goto 27, 3) := by decide +kernel
theorem dX9_isHeard_18 : decode cX9_isHeard 18 = .ok (.iload_n 1, 1) := by decide +kernel
theorem dX9_isHeard_19 : decode cX9_isHeard 19 = .ok (.iload_n 2, 1) := by decide +kernel
theorem dX9_isHeard_20 : decode cX9_isHeard 20 = .ok (.if_icmp .le 21, 3) := by decide +kernel
theorem dX9_isHeard_23 : decode cX9_isHeard 23 = .ok (.iload_n 1, 1) := by decide +kernel
theorem dX9_isHeard_24 : decode cX9_isHeard 24 = .ok (.iload_n 0, 1) := by decide +kernel
theorem dX9_isHeard_25 : decode cX9_isHeard 25 = .ok (.iconst 3, 1) := by decide +kernel
theorem dX9_isHeard_26 : decode cX9_isHeard 26 = .ok (.if_icmp .ne 7, 3) := by decide +kernel
theorem dX9_isHeard_29 : decode cX9_isHeard 29 = .ok (.iconst 4, 1) := by decide +kernel
theorem dX9_isHeard_30 : decode cX9_isHeard 30 = .ok (.goto 4, 3) := by decide +kernel
theorem dX9_isHeard_33 : decode cX9_isHeard 33 = .ok (.iconst 1, 1) := by decide +kernel
theorem dX9_isHeard_34 : decode cX9_isHeard 34 = .ok (.if_icmp .lt 7, 3) := by decide +kernel
theorem dX9_isHeard_37 : decode cX9_isHeard 37 = .ok (.iconst 1, 1) := by decide +kernel
theorem dX9_isHeard_38 : decode cX9_isHeard 38 = .ok (.goto 4, 3) := by decide +kernel
theorem dX9_isHeard_41 : decode cX9_isHeard 41 = .ok (.iconst 0, 1) := by decide +kernel
theorem dX9_isHeard_42 : decode cX9_isHeard 42 = .ok (.ireturn, 1) := by decide +kernel
set_option maxRecDepth 20000 in
theorem ggX9_comesTo_X9_speaks : GoodIn wsX9_comesTo wsX9_speaks := goodIn_r _ [6] (by decide +kernel) (by decide +kernel)
set_option maxRecDepth 20000 in
theorem gX9_comesTo_X9_speaks : GoodIn wsX9_comesTo (va_wsS RX9 162 yX9_speaks wsX9_speaks) := goodIn_app (goodIn_of _ (by decide +kernel)) ggX9_comesTo_X9_speaks
set_option maxRecDepth 20000 in
theorem ggX9_comesTo_X9_between : GoodIn wsX9_comesTo wsX9_between := goodIn_r _ [10, 11, 12, 13, 14, 15, 16, 17, 18, 19, 20, 21, 22, 23, 24, 25, 26, 27, 28, 29, 30, 31, 32, 33, 34, 35, 36, 37, 38, 39, 40, 41, 42, 43, 44, 45, 46, 47] (by decide +kernel) (by decide +kernel)
set_option maxRecDepth 20000 in
theorem gX9_comesTo_X9_between : GoodIn wsX9_comesTo (wsV RX9 172 RX9 yX9_between wsX9_between) := goodIn_app (goodIn_of _ (by decide +kernel)) ggX9_comesTo_X9_between
theorem dX9_comesTo_0 : decode cX9_comesTo 0 = .ok (.aload_n 0, 1) := by decide +kernel
theorem dX9_comesTo_1 : decode cX9_comesTo 1 = .ok (.getfield 22, 3) := by decide +kernel
theorem dX9_comesTo_4 : decode cX9_comesTo 4 = .ok (.iload_n 2, 1) := by decide +kernel
theorem dX9_comesTo_5 : decode cX9_comesTo 5 = .ok (.iaload, 1) := by decide +kernel
theorem dX9_comesTo_6 : decode cX9_comesTo 6 = .ok (.invokestatic 162, 3) := by decide +kernel
theorem dX9_comesTo_9 : decode cX9_comesTo 9 = .ok (.aload_n 0, 1) := by decide +kernel
theorem dX9_comesTo_10 : decode cX9_comesTo 10 = .ok (.aload_n 0, 1) := by decide +kernel
theorem dX9_comesTo_11 : decode cX9_comesTo 11 = .ok (.getfield 25, 3) := by decide +kernel
theorem dX9_comesTo_14 : decode cX9_comesTo 14 = .ok (.iload_n 2, 1) := by decide +kernel
theorem dX9_comesTo_15 : decode cX9_comesTo 15 = .ok (.iaload, 1) := by decide +kernel
theorem dX9_comesTo_16 : decode cX9_comesTo 16 = .ok (.iload_n 1, 1) := by decide +kernel
theorem dX9_comesTo_17 : decode cX9_comesTo 17 = .ok (.invokevirtual 172, 3) := by decide +kernel
theorem dX9_comesTo_20 : decode cX9_comesTo 20 = .ok (.isub, 1) := by decide +kernel
theorem dX9_comesTo_21 : decode cX9_comesTo 21 = .ok (.ireturn, 1) := by decide +kernel
set_option maxRecDepth 20000 in
theorem ggX9_heardBy_X9_has : GoodIn wsX9_heardBy wsX9_has := goodIn_r _ [7] (by decide +kernel) (by decide +kernel)
set_option maxRecDepth 20000 in
theorem gX9_heardBy_X9_has : GoodIn wsX9_heardBy (va_wsS RX9 165 yX9_has wsX9_has) := goodIn_app (goodIn_of _ (by decide +kernel)) ggX9_heardBy_X9_has
set_option maxRecDepth 20000 in
theorem ggX9_heardBy_X9_comesTo : GoodIn wsX9_heardBy wsX9_comesTo := goodIn_r _ [11, 2, 3, 12, 13, 6, 14, 15, 16, 17, 18, 19, 30, 31, 32, 33, 34, 35, 36, 37, 38, 39, 40, 41, 42, 43, 44, 45, 46, 47, 48, 49, 50, 51, 52, 53, 54, 55, 56, 57, 58, 59, 60, 61, 62, 63, 64, 65] (by decide +kernel) (by decide +kernel)
set_option maxRecDepth 20000 in
theorem gX9_heardBy_X9_comesTo : GoodIn wsX9_heardBy (wsV RX9 175 RX9 yX9_comesTo wsX9_comesTo) := goodIn_app (goodIn_of _ (by decide +kernel)) ggX9_heardBy_X9_comesTo
set_option maxRecDepth 20000 in
theorem ggX9_heardBy_X9_noiseIn : GoodIn wsX9_heardBy wsX9_noiseIn := goodIn_r _ [23, 1, 2, 3, 4, 5, 6, 7, 24, 25, 26, 12, 13, 14, 15, 16, 17, 18, 19, 30, 31, 32, 33, 34, 35, 36, 37, 38, 39, 40, 41, 42, 43, 44, 45, 46, 47, 48, 49, 50, 51, 52, 53, 54, 55, 56, 57, 58, 59, 60, 61, 62, 63, 64, 65] (by decide +kernel) (by decide +kernel)
set_option maxRecDepth 20000 in
theorem gX9_heardBy_X9_noiseIn : GoodIn wsX9_heardBy (wsV RX9 178 RX9 yX9_noiseIn wsX9_noiseIn) := goodIn_app (goodIn_of _ (by decide +kernel)) ggX9_heardBy_X9_noiseIn
set_option maxRecDepth 20000 in
theorem ggX9_heardBy_X9_isHeard : GoodIn wsX9_heardBy wsX9_isHeard := goodIn_r _ [29] (by decide +kernel) (by decide +kernel)
set_option maxRecDepth 20000 in
theorem gX9_heardBy_X9_isHeard : GoodIn wsX9_heardBy (va_wsS RX9 181 yX9_isHeard wsX9_isHeard) := goodIn_app (goodIn_of _ (by decide +kernel)) ggX9_heardBy_X9_isHeard
theorem dX9_heardBy_0 : decode cX9_heardBy 0 = .ok (.iconst 0, 1) := by decide +kernel
theorem dX9_heardBy_1 : decode cX9_heardBy 1 = .ok (.istore_n 3, 1) := by decide +kernel
theorem dX9_heardBy_2 : decode cX9_heardBy 2 = .ok (.iconst 0, 1) := by decide +kernel
theorem dX9_heardBy_3 : decode cX9_heardBy 3 = .ok (.istore 4, 2) := by decide +kernel
theorem dX9_heardBy_5 : decode cX9_heardBy 5 = .ok (.iload 4, 2) := by decide +kernel
theorem dX9_heardBy_7 : decode cX9_heardBy 7 = .ok (.aload_n 0, 1) := by decide +kernel
theorem dX9_heardBy_8 : decode cX9_heardBy 8 = .ok (.getfield 153, 3) := by decide +kernel
theorem dX9_heardBy_11 : decode cX9_heardBy 11 = .ok (.if_icmp .ge 84, 3) := by decide +kernel
theorem dX9_heardBy_14 : decode cX9_heardBy 14 = .ok (.iload 4, 2) := by decide +kernel
theorem dX9_heardBy_16 : decode cX9_heardBy 16 = .ok (.iload_n 1, 1) := by decide +kernel
theorem dX9_heardBy_17 : decode cX9_heardBy 17 = .ok (.if_icmp .eq 53, 3) := by decide +kernel
theorem dX9_heardBy_20 : decode cX9_heardBy 20 = .ok (.iload_n 2, 1) := by decide +kernel
theorem dX9_heardBy_21 : decode cX9_heardBy 21 = .ok (.iload 4, 2) := by decide +kernel
theorem dX9_heardBy_23 : decode cX9_heardBy 23 = .ok (.invokestatic 165, 3) := by decide +kernel
theorem dX9_heardBy_26 : decode cX9_heardBy 26 = .ok (.ifCond .ne 44, 3) := by decide +kernel
theorem dX9_heardBy_29 : decode cX9_heardBy 29 = .ok (.aload_n 0, 1) := by decide +kernel
theorem dX9_heardBy_30 : decode cX9_heardBy 30 = .ok (.getfield 22, 3) := by decide +kernel
theorem dX9_heardBy_33 : decode cX9_heardBy 33 = .ok (.iload 4, 2) := by decide +kernel
theorem dX9_heardBy_35 : decode cX9_heardBy 35 = .ok (.iaload, 1) := by decide +kernel
theorem dX9_heardBy_36 : decode cX9_heardBy 36 = .ok (.aload_n 0, 1) := by decide +kernel
theorem dX9_heardBy_37 : decode cX9_heardBy 37 = .ok (.aload_n 0, 1) := by decide +kernel
theorem dX9_heardBy_38 : decode cX9_heardBy 38 = .ok (.getfield 25, 3) := by decide +kernel
theorem dX9_heardBy_41 : decode cX9_heardBy 41 = .ok (.iload 4, 2) := by decide +kernel
theorem dX9_heardBy_43 : decode cX9_heardBy 43 = .ok (.iaload, 1) := by decide +kernel
theorem dX9_heardBy_44 : decode cX9_heardBy 44 = .ok (.iload_n 1, 1) := by decide +kernel
theorem dX9_heardBy_45 : decode cX9_heardBy 45 = .ok (.invokevirtual 175, 3) := by decide +kernel
theorem dX9_heardBy_48 : decode cX9_heardBy 48 = .ok (.aload_n 0, 1) := by decide +kernel
theorem dX9_heardBy_49 : decode cX9_heardBy 49 = .ok (.aload_n 0, 1) := by decide +kernel
theorem dX9_heardBy_50 : decode cX9_heardBy 50 = .ok (.getfield 25, 3) := by decide +kernel
theorem dX9_heardBy_53 : decode cX9_heardBy 53 = .ok (.iload 4, 2) := by decide +kernel
theorem dX9_heardBy_55 : decode cX9_heardBy 55 = .ok (.iaload, 1) := by decide +kernel
theorem dX9_heardBy_56 : decode cX9_heardBy 56 = .ok (.iload_n 2, 1) := by decide +kernel
theorem dX9_heardBy_57 : decode cX9_heardBy 57 = .ok (.invokevirtual 178, 3) := by decide +kernel
theorem dX9_heardBy_60 : decode cX9_heardBy 60 = .ok (.invokestatic 181, 3) := by decide +kernel
theorem dX9_heardBy_63 : decode cX9_heardBy 63 = .ok (.ifCond .eq 7, 3) := by decide +kernel
theorem dX9_heardBy_66 : decode cX9_heardBy 66 = .ok (.iconst 1, 1) := by decide +kernel
theorem dX9_heardBy_67 : decode cX9_heardBy 67 = .ok (.goto 4, 3) := by decide +kernel
theorem dX9_heardBy_70 : decode cX9_heardBy 70 = .ok (.iconst 0, 1) := by decide +kernel
theorem dX9_heardBy_71 : decode cX9_heardBy 71 = .ok (.istore 5, 2) := by decide +kernel
theorem dX9_heardBy_73 : decode cX9_heardBy 73 = .ok (.iload_n 3, 1) := by decide +kernel
theorem dX9_heardBy_74 : decode cX9_heardBy 74 = .ok (.iload 5, 2) := by decide +kernel
theorem dX9_heardBy_76 : decode cX9_heardBy 76 = .ok (.ifCond .eq 10, 3) := by decide +kernel
theorem dX9_heardBy_79 : decode cX9_heardBy 79 = .ok (.iconst 1, 1) := by decide +kernel
theorem dX9_heardBy_80 : decode cX9_heardBy 80 = .ok (.iload 4, 2) := by decide +kernel
theorem dX9_heardBy_82 : decode cX9_heardBy 82 = .ok (.ishl, 1) := by decide +kernel
theorem dX9_heardBy_83 : decode cX9_heardBy 83 = .ok (.goto 4, 3) := by decide +kernel
theorem dX9_heardBy_86 : decode cX9_heardBy 86 = .ok (.iconst 0, 1) := by decide +kernel
theorem dX9_heardBy_87 : decode cX9_heardBy 87 = .ok (.ior, 1) := by decide +kernel
theorem dX9_heardBy_88 : decode cX9_heardBy 88 = .ok (.istore_n 3, 1) := by decide +kernel
theorem dX9_heardBy_89 : decode cX9_heardBy 89 = .ok (.iinc 4 1, 3) := by decide +kernel
theorem dX9_heardBy_92 : decode cX9_heardBy 92 = .ok (.goto (-87), 3) := by decide +kernel
theorem dX9_heardBy_95 : decode cX9_heardBy 95 = .ok (.iload_n 3, 1) := by decide +kernel
theorem dX9_heardBy_96 : decode cX9_heardBy 96 = .ok (.ireturn, 1) := by decide +kernel
set_option maxRecDepth 20000 in
theorem ggX9_doesHear_X9_heardBy : GoodIn wsX9_doesHear wsX9_heardBy := goodIn_r _ [5, 6, 7, 8, 9, 10, 4, 11, 12, 13, 14, 15, 16, 17, 18, 19, 20, 21, 22, 23, 24, 25, 26, 27, 28, 29, 30, 31, 32, 33, 34, 35, 36, 37, 38, 39, 40, 41, 42, 43, 44, 45, 46, 47, 48, 49, 50, 51, 52, 53, 54, 55, 56, 57, 58, 59, 60, 61, 62, 63, 64, 65, 66, 67, 68, 69] (by decide +kernel) (by decide +kernel)
set_option maxRecDepth 20000 in
theorem gX9_doesHear_X9_heardBy : GoodIn wsX9_doesHear (wsV RX9 185 RX9 yX9_heardBy wsX9_heardBy) := goodIn_app (goodIn_of _ (by decide +kernel)) ggX9_doesHear_X9_heardBy
set_option maxRecDepth 20000 in
theorem ggX9_doesHear_X9_has : GoodIn wsX9_doesHear wsX9_has := goodIn_r _ [11] (by decide +kernel) (by decide +kernel)
set_option maxRecDepth 20000 in
theorem gX9_doesHear_X9_has : GoodIn wsX9_doesHear (va_wsS RX9 165 yX9_has wsX9_has) := goodIn_app (goodIn_of _ (by decide +kernel)) ggX9_doesHear_X9_has
theorem dX9_doesHear_0 : decode cX9_doesHear 0 = .ok (.aload_n 0, 1) := by decide +kernel
theorem dX9_doesHear_1 : decode cX9_doesHear 1 = .ok (.iload_n 2, 1) := by decide +kernel
theorem dX9_doesHear_2 : decode cX9_doesHear 2 = .ok (.iconst 0, 1) := by decide +kernel
theorem dX9_doesHear_3 : decode cX9_doesHear 3 = .ok (.invokevirtual 185, 3) := by decide +kernel
theorem dX9_doesHear_6 : decode cX9_doesHear 6 = .ok (.iload_n 1, 1) := by decide +kernel
theorem dX9_doesHear_7 : decode cX9_doesHear 7 = .ok (.invokestatic 165, 3) := by decide +kernel
theorem dX9_doesHear_10 : decode cX9_doesHear 10 = .ok (.ireturn, 1) := by decide +kernel
set_option maxRecDepth 20000 in
theorem ggX9_person_X9_isOne : GoodIn wsX9_person wsX9_isOne := goodIn_r _ [6, 7, 8, 9, 5, 10, 32, 33, 34, 35, 36, 37, 38, 39, 40, 41, 42, 43, 44, 45, 46, 47, 48, 49, 50, 51, 52, 53, 54, 55, 56, 57, 58, 59, 60, 61, 62, 63, 64, 65, 66, 67] (by decide +kernel) (by decide +kernel)
set_option maxRecDepth 20000 in
theorem gX9_person_X9_isOne : GoodIn wsX9_person (wsV RX9 188 RX9 yX9_isOne wsX9_isOne) := goodIn_app (goodIn_of _ (by decide +kernel)) ggX9_person_X9_isOne
set_option maxRecDepth 20000 in
theorem ggX9_person_X9_in : GoodIn wsX9_person wsX9_in := goodIn_r _ [10] (by decide +kernel) (by decide +kernel)
set_option maxRecDepth 20000 in
theorem gX9_person_X9_in : GoodIn wsX9_person (va_wsS RX9 98 yX9_in wsX9_in) := goodIn_app (goodIn_of _ (by decide +kernel)) ggX9_person_X9_in
set_option maxRecDepth 20000 in
theorem ggX9_person_X9_personOf : GoodIn wsX9_person wsX9_personOf := goodIn_r _ [14, 15, 16, 17, 18, 19, 5, 20, 21, 22, 23, 24, 25, 26, 32, 33, 34, 35, 36, 37, 38, 39, 40, 41, 42, 43, 44, 45, 46, 47, 48, 49, 50, 51, 52, 53, 54, 55, 56, 57, 58, 59, 60, 61, 62, 63, 64, 65, 66, 67] (by decide +kernel) (by decide +kernel)
set_option maxRecDepth 20000 in
theorem gX9_person_X9_personOf : GoodIn wsX9_person (wsV RX9 193 RX9 yX9_personOf wsX9_personOf) := goodIn_app (goodIn_of _ (by decide +kernel)) ggX9_person_X9_personOf
set_option maxRecDepth 20000 in
theorem ggX9_person_X9_say : GoodIn wsX9_person wsX9_say := goodIn_r _ [30, 31, 32, 33, 34, 35, 36, 37, 38, 39, 40, 41, 42, 43, 44, 45, 46, 47, 48, 49, 50, 51, 52, 53, 54, 55, 56, 57, 58, 59, 60, 61, 62, 63, 64, 65, 66, 67] (by decide +kernel) (by decide +kernel)
set_option maxRecDepth 20000 in
theorem gX9_person_X9_say : GoodIn wsX9_person (wsV RX9 116 RX9 yX9_say wsX9_say) := goodIn_app (goodIn_of _ (by decide +kernel)) ggX9_person_X9_say
theorem dX9_person_0 : decode cX9_person 0 = .ok (.aload_n 0, 1) := by decide +kernel
theorem dX9_person_1 : decode cX9_person 1 = .ok (.iload_n 1, 1) := by decide +kernel
theorem dX9_person_2 : decode cX9_person 2 = .ok (.invokevirtual 188, 3) := by decide +kernel
theorem dX9_person_5 : decode cX9_person 5 = .ok (.ifCond .eq 15, 3) := by decide +kernel
theorem dX9_person_8 : decode cX9_person 8 = .ok (.iload_n 2, 1) := by decide +kernel
theorem dX9_person_9 : decode cX9_person 9 = .ok (.i2l, 1) := by decide +kernel
theorem dX9_person_10 : decode cX9_person 10 = .ok (.lconst 0, 1) := by decide +kernel
theorem dX9_person_11 : decode cX9_person 11 = .ok (.ldc2_w 191, 3) := by decide +kernel
theorem dX9_person_14 : decode cX9_person 14 = .ok (.invokestatic 98, 3) := by decide +kernel
theorem dX9_person_17 : decode cX9_person 17 = .ok (.ifCond .ne 5, 3) := by decide +kernel
theorem dX9_person_20 : decode cX9_person 20 = .ok (.iconst (-1), 1) := by decide +kernel
theorem dX9_person_21 : decode cX9_person 21 = .ok (.ireturn, 1) := by decide +kernel
theorem dX9_person_22 : decode cX9_person 22 = .ok (.aload_n 0, 1) := by decide +kernel
theorem dX9_person_23 : decode cX9_person 23 = .ok (.iconst 1, 1) := by decide +kernel
theorem dX9_person_24 : decode cX9_person 24 = .ok (.aload_n 0, 1) := by decide +kernel
theorem dX9_person_25 : decode cX9_person 25 = .ok (.iload_n 1, 1) := by decide +kernel
theorem dX9_person_26 : decode cX9_person 26 = .ok (.iload_n 2, 1) := by decide +kernel
theorem dX9_person_27 : decode cX9_person 27 = .ok (.invokevirtual 193, 3) := by decide +kernel
theorem dX9_person_30 : decode cX9_person 30 = .ok (.invokevirtual 116, 3) := by decide +kernel
theorem dX9_person_33 : decode cX9_person 33 = .ok (.ireturn, 1) := by decide +kernel
set_option maxRecDepth 20000 in
theorem ggX9_personOf_X9_has : GoodIn wsX9_personOf wsX9_has := goodIn_r _ [7] (by decide +kernel) (by decide +kernel)
set_option maxRecDepth 20000 in
theorem gX9_personOf_X9_has : GoodIn wsX9_personOf (va_wsS RX9 165 yX9_has wsX9_has) := goodIn_app (goodIn_of _ (by decide +kernel)) ggX9_personOf_X9_has
set_option maxRecDepth 20000 in
theorem ggX9_personOf_X9_speaks : GoodIn wsX9_personOf wsX9_speaks := goodIn_r _ [10] (by decide +kernel) (by decide +kernel)
set_option maxRecDepth 20000 in
theorem gX9_personOf_X9_speaks : GoodIn wsX9_personOf (va_wsS RX9 162 yX9_speaks wsX9_speaks) := goodIn_app (goodIn_of _ (by decide +kernel)) ggX9_personOf_X9_speaks
set_option maxRecDepth 20000 in
theorem ggX9_personOf_X9_sings : GoodIn wsX9_personOf wsX9_sings := goodIn_r _ [13, 8, 9, 6, 10] (by decide +kernel) (by decide +kernel)
set_option maxRecDepth 20000 in
theorem gX9_personOf_X9_sings : GoodIn wsX9_personOf (va_wsS RX9 169 yX9_sings wsX9_sings) := goodIn_app (goodIn_of _ (by decide +kernel)) ggX9_personOf_X9_sings
theorem dX9_personOf_0 : decode cX9_personOf 0 = .ok (.iconst 0, 1) := by decide +kernel
theorem dX9_personOf_1 : decode cX9_personOf 1 = .ok (.istore_n 3, 1) := by decide +kernel
theorem dX9_personOf_2 : decode cX9_personOf 2 = .ok (.iconst 0, 1) := by decide +kernel
theorem dX9_personOf_3 : decode cX9_personOf 3 = .ok (.istore 4, 2) := by decide +kernel
theorem dX9_personOf_5 : decode cX9_personOf 5 = .ok (.iload 4, 2) := by decide +kernel
theorem dX9_personOf_7 : decode cX9_personOf 7 = .ok (.bipush 8, 2) := by decide +kernel
theorem dX9_personOf_9 : decode cX9_personOf 9 = .ok (.if_icmp .ge 34, 3) := by decide +kernel
theorem dX9_personOf_12 : decode cX9_personOf 12 = .ok (.iload_n 3, 1) := by decide +kernel
theorem dX9_personOf_13 : decode cX9_personOf 13 = .ok (.aload_n 0, 1) := by decide +kernel
theorem dX9_personOf_14 : decode cX9_personOf 14 = .ok (.getfield 34, 3) := by decide +kernel
theorem dX9_personOf_17 : decode cX9_personOf 17 = .ok (.iload 4, 2) := by decide +kernel
theorem dX9_personOf_19 : decode cX9_personOf 19 = .ok (.iaload, 1) := by decide +kernel
theorem dX9_personOf_20 : decode cX9_personOf 20 = .ok (.iload_n 1, 1) := by decide +kernel
theorem dX9_personOf_21 : decode cX9_personOf 21 = .ok (.invokestatic 165, 3) := by decide +kernel
theorem dX9_personOf_24 : decode cX9_personOf 24 = .ok (.ifCond .eq 10, 3) := by decide +kernel
theorem dX9_personOf_27 : decode cX9_personOf 27 = .ok (.iconst 1, 1) := by decide +kernel
theorem dX9_personOf_28 : decode cX9_personOf 28 = .ok (.iload 4, 2) := by decide +kernel
theorem dX9_personOf_30 : decode cX9_personOf 30 = .ok (.ishl, 1) := by decide +kernel
theorem dX9_personOf_31 : decode cX9_personOf 31 = .ok (.goto 4, 3) := by decide +kernel
theorem dX9_personOf_34 : decode cX9_personOf 34 = .ok (.iconst 0, 1) := by decide +kernel
theorem dX9_personOf_35 : decode cX9_personOf 35 = .ok (.ior, 1) := by decide +kernel
theorem dX9_personOf_36 : decode cX9_personOf 36 = .ok (.istore_n 3, 1) := by decide +kernel
theorem dX9_personOf_37 : decode cX9_personOf 37 = .ok (.iinc 4 1, 3) := by decide +kernel
theorem dX9_personOf_40 : decode cX9_personOf 40 = .ok (.goto (-35), 3) := by decide +kernel
theorem dX9_personOf_43 : decode cX9_personOf 43 = .ok (.iload_n 2, 1) := by decide +kernel
theorem dX9_personOf_44 : decode cX9_personOf 44 = .ok (.ifCond .ne 12, 3) := by decide +kernel
theorem dX9_personOf_47 : decode cX9_personOf 47 = .ok (.aload_n 0, 1) := by decide +kernel
theorem dX9_personOf_48 : decode cX9_personOf 48 = .ok (.getfield 22, 3) := by decide +kernel
theorem dX9_personOf_51 : decode cX9_personOf 51 = .ok (.iload_n 1, 1) := by decide +kernel
theorem dX9_personOf_52 : decode cX9_personOf 52 = .ok (.iaload, 1) := by decide +kernel
theorem dX9_personOf_53 : decode cX9_personOf 53 = .ok (.goto 52, 3) := by decide +kernel
theorem dX9_personOf_56 : decode cX9_personOf 56 = .ok (.iload_n 2, 1) := by decide +kernel
theorem dX9_personOf_57 : decode cX9_personOf 57 = .ok (.iconst 1, 1) := by decide +kernel
theorem dX9_personOf_58 : decode cX9_personOf 58 = .ok (.if_icmp .ne 12, 3) := by decide +kernel
theorem dX9_personOf_61 : decode cX9_personOf 61 = .ok (.aload_n 0, 1) := by decide +kernel
theorem dX9_personOf_62 : decode cX9_personOf 62 = .ok (.getfield 25, 3) := by decide +kernel
theorem dX9_personOf_65 : decode cX9_personOf 65 = .ok (.iload_n 1, 1) := by decide +kernel
theorem dX9_personOf_66 : decode cX9_personOf 66 = .ok (.iaload, 1) := by decide +kernel
theorem dX9_personOf_67 : decode cX9_personOf 67 = .ok (.goto 38, 3) := by decide +kernel
theorem dX9_personOf_70 : decode cX9_personOf 70 = .ok (.iload_n 2, 1) := by decide +kernel
theorem dX9_personOf_71 : decode cX9_personOf 71 = .ok (.iconst 2, 1) := by decide +kernel
theorem dX9_personOf_72 : decode cX9_personOf 72 = .ok (.if_icmp .ne 15, 3) := by decide +kernel
theorem dX9_personOf_75 : decode cX9_personOf 75 = .ok (.aload_n 0, 1) := by decide +kernel
theorem dX9_personOf_76 : decode cX9_personOf 76 = .ok (.getfield 22, 3) := by decide +kernel
theorem dX9_personOf_79 : decode cX9_personOf 79 = .ok (.iload_n 1, 1) := by decide +kernel
theorem dX9_personOf_80 : decode cX9_personOf 80 = .ok (.iaload, 1) := by decide +kernel
theorem dX9_personOf_81 : decode cX9_personOf 81 = .ok (.invokestatic 162, 3) := by decide +kernel
theorem dX9_personOf_84 : decode cX9_personOf 84 = .ok (.goto 21, 3) := by decide +kernel
theorem dX9_personOf_87 : decode cX9_personOf 87 = .ok (.iload_n 2, 1) := by decide +kernel
theorem dX9_personOf_88 : decode cX9_personOf 88 = .ok (.iconst 3, 1) := by decide +kernel
theorem dX9_personOf_89 : decode cX9_personOf 89 = .ok (.if_icmp .ne 15, 3) := by decide +kernel
theorem dX9_personOf_92 : decode cX9_personOf 92 = .ok (.aload_n 0, 1) := by decide +kernel
theorem dX9_personOf_93 : decode cX9_personOf 93 = .ok (.getfield 22, 3) := by decide +kernel
theorem dX9_personOf_96 : decode cX9_personOf 96 = .ok (.iload_n 1, 1) := by decide +kernel
theorem dX9_personOf_97 : decode cX9_personOf 97 = .ok (.iaload, 1) := by decide +kernel
theorem dX9_personOf_98 : decode cX9_personOf 98 = .ok (.invokestatic 169, 3) := by decide +kernel
theorem dX9_personOf_101 : decode cX9_personOf 101 = .ok (.goto 4, 3) := by decide +kernel
theorem dX9_personOf_104 : decode cX9_personOf 104 = .ok (.iload_n 3, 1) := by decide +kernel
theorem dX9_personOf_105 : decode cX9_personOf 105 = .ok (.ireturn, 1) := by decide +kernel
theorem dX9_isKind_0 : decode cX9_isKind 0 = .ok (.iload_n 0, 1) := by decide +kernel
theorem dX9_isKind_1 : decode cX9_isKind 1 = .ok (.iload_n 1, 1) := by decide +kernel
theorem dX9_isKind_2 : decode cX9_isKind 2 = .ok (.if_icmp .eq 23, 3) := by decide +kernel
theorem dX9_isKind_5 : decode cX9_isKind 5 = .ok (.iload_n 0, 1) := by decide +kernel
theorem dX9_isKind_6 : decode cX9_isKind 6 = .ok (.iconst 4, 1) := by decide +kernel
theorem dX9_isKind_7 : decode cX9_isKind 7 = .ok (.if_icmp .ne 8, 3) := by decide +kernel
theorem dX9_isKind_10 : decode cX9_isKind 10 = .ok (.iload_n 1, 1) := by decide +kernel
theorem dX9_isKind_11 : decode cX9_isKind 11 = .ok (.iconst 1, 1) := by decide +kernel
theorem dX9_isKind_12 : decode cX9_isKind 12 = .ok (.if_icmp .eq 13, 3) := by decide +kernel
theorem dX9_isKind_15 : decode cX9_isKind 15 = .ok (.iload_n 0, 1) := by decide +kernel
theorem dX9_isKind_16 : decode cX9_isKind 16 = .ok (.iconst 5, 1) := by decide +kernel
theorem dX9_isKind_17 : decode cX9_isKind 17 = .ok (.if_icmp .ne 12, 3) := by decide +kernel
theorem dX9_isKind_20 : decode cX9_isKind 20 = .ok (.iload_n 1, 1) := by decide +kernel
theorem dX9_isKind_21 : decode cX9_isKind 21 = .ok (.iconst 2, 1) := by decide +kernel
theorem dX9_isKind_22 : decode cX9_isKind 22 = .ok (.if_icmp .ne 7, 3) := by decide +kernel
theorem dX9_isKind_25 : decode cX9_isKind 25 = .ok (.iconst 1, 1) := by decide +kernel
theorem dX9_isKind_26 : decode cX9_isKind 26 = .ok (.goto 4, 3) := by decide +kernel
theorem dX9_isKind_29 : decode cX9_isKind 29 = .ok (.iconst 0, 1) := by decide +kernel
theorem dX9_isKind_30 : decode cX9_isKind 30 = .ok (.ireturn, 1) := by decide +kernel
set_option maxRecDepth 20000 in
theorem ggX9_manyHeard_X9_doesHear : GoodIn wsX9_manyHeard wsX9_doesHear := goodIn_r _ [6, 7, 8, 9, 5, 10, 1, 11, 12, 13, 14, 15, 16, 17, 18, 19, 20, 21, 22, 23, 24, 25, 26, 27, 28, 29, 30, 31, 32, 33, 34, 35, 36, 37, 38, 39, 40, 41, 42, 43, 44, 45, 46, 47, 48, 49, 50, 51, 52, 53, 54, 55, 56, 57, 58, 59, 60, 61, 62, 63, 64, 65, 66, 67, 68, 69, 70, 71, 72, 73] (by decide +kernel) (by decide +kernel)
set_option maxRecDepth 20000 in
theorem gX9_manyHeard_X9_doesHear : GoodIn wsX9_manyHeard (wsV RX9 196 RX9 yX9_doesHear wsX9_doesHear) := goodIn_app (goodIn_of _ (by decide +kernel)) ggX9_manyHeard_X9_doesHear
theorem dX9_manyHeard_0 : decode cX9_manyHeard 0 = .ok (.iconst 0, 1) := by decide +kernel
theorem dX9_manyHeard_1 : decode cX9_manyHeard 1 = .ok (.istore_n 2, 1) := by decide +kernel
theorem dX9_manyHeard_2 : decode cX9_manyHeard 2 = .ok (.iconst 0, 1) := by decide +kernel
theorem dX9_manyHeard_3 : decode cX9_manyHeard 3 = .ok (.istore_n 3, 1) := by decide +kernel
theorem dX9_manyHeard_4 : decode cX9_manyHeard 4 = .ok (.iload_n 3, 1) := by decide +kernel
theorem dX9_manyHeard_5 : decode cX9_manyHeard 5 = .ok (.aload_n 0, 1) := by decide +kernel
theorem dX9_manyHeard_6 : decode cX9_manyHeard 6 = .ok (.getfield 153, 3) := by decide +kernel
theorem dX9_manyHeard_9 : decode cX9_manyHeard 9 = .ok (.if_icmp .ge 31, 3) := by decide +kernel
theorem dX9_manyHeard_12 : decode cX9_manyHeard 12 = .ok (.iload_n 2, 1) := by decide +kernel
theorem dX9_manyHeard_13 : decode cX9_manyHeard 13 = .ok (.iload_n 3, 1) := by decide +kernel
theorem dX9_manyHeard_14 : decode cX9_manyHeard 14 = .ok (.iload_n 1, 1) := by decide +kernel
theorem dX9_manyHeard_15 : decode cX9_manyHeard 15 = .ok (.if_icmp .eq 16, 3) := by decide +kernel
theorem dX9_manyHeard_18 : decode cX9_manyHeard 18 = .ok (.aload_n 0, 1) := by decide +kernel
theorem dX9_manyHeard_19 : decode cX9_manyHeard 19 = .ok (.iload_n 1, 1) := by decide +kernel
theorem dX9_manyHeard_20 : decode cX9_manyHeard 20 = .ok (.iload_n 3, 1) := by decide +kernel
theorem dX9_manyHeard_21 : decode cX9_manyHeard 21 = .ok (.invokevirtual 196, 3) := by decide +kernel
theorem dX9_manyHeard_24 : decode cX9_manyHeard 24 = .ok (.ifCond .eq 7, 3) := by decide +kernel
theorem dX9_manyHeard_27 : decode cX9_manyHeard 27 = .ok (.iconst 1, 1) := by decide +kernel
theorem dX9_manyHeard_28 : decode cX9_manyHeard 28 = .ok (.goto 4, 3) := by decide +kernel
theorem dX9_manyHeard_31 : decode cX9_manyHeard 31 = .ok (.iconst 0, 1) := by decide +kernel
theorem dX9_manyHeard_32 : decode cX9_manyHeard 32 = .ok (.iadd, 1) := by decide +kernel
theorem dX9_manyHeard_33 : decode cX9_manyHeard 33 = .ok (.istore_n 2, 1) := by decide +kernel
theorem dX9_manyHeard_34 : decode cX9_manyHeard 34 = .ok (.iinc 3 1, 3) := by decide +kernel
theorem dX9_manyHeard_37 : decode cX9_manyHeard 37 = .ok (.goto (-33), 3) := by decide +kernel
theorem dX9_manyHeard_40 : decode cX9_manyHeard 40 = .ok (.iload_n 2, 1) := by decide +kernel
theorem dX9_manyHeard_41 : decode cX9_manyHeard 41 = .ok (.ireturn, 1) := by decide +kernel
set_option maxRecDepth 20000 in
theorem ggX9_mark_X9_isOne : GoodIn wsX9_mark wsX9_isOne := goodIn_r _ [9, 3, 10, 11, 8, 12, 62, 63, 64, 65, 66, 67, 68, 69, 70, 71, 72, 73, 74, 75, 76, 77, 78, 79, 80, 81, 82, 83, 84, 85, 86, 87, 88, 89, 90, 91, 92, 93, 94, 95, 96, 97] (by decide +kernel) (by decide +kernel)
set_option maxRecDepth 20000 in
theorem gX9_mark_X9_isOne : GoodIn wsX9_mark (wsV RX9 188 RX9 yX9_isOne wsX9_isOne) := goodIn_app (goodIn_of _ (by decide +kernel)) ggX9_mark_X9_isOne
set_option maxRecDepth 20000 in
theorem ggX9_mark_X9_in : GoodIn wsX9_mark wsX9_in := goodIn_r _ [12] (by decide +kernel) (by decide +kernel)
set_option maxRecDepth 20000 in
theorem gX9_mark_X9_in : GoodIn wsX9_mark (va_wsS RX9 98 yX9_in wsX9_in) := goodIn_app (goodIn_of _ (by decide +kernel)) ggX9_mark_X9_in
set_option maxRecDepth 20000 in
theorem ggX9_mark_X9_isKind : GoodIn wsX9_mark wsX9_isKind := goodIn_r _ [15] (by decide +kernel) (by decide +kernel)
set_option maxRecDepth 20000 in
theorem gX9_mark_X9_isKind : GoodIn wsX9_mark (va_wsS RX9 199 yX9_isKind wsX9_isKind) := goodIn_app (goodIn_of _ (by decide +kernel)) ggX9_mark_X9_isKind
set_option maxRecDepth 20000 in
theorem ggX9_mark_X9_find : GoodIn wsX9_mark wsX9_find := goodIn_r _ [19, 20, 21, 62, 63, 64, 65, 66, 67, 68, 69, 70, 71, 72, 73, 74, 75, 76, 77, 78, 79, 80, 81, 82, 83, 84, 85, 86, 87, 88, 89, 90, 91, 92, 93, 94, 95, 96, 97] (by decide +kernel) (by decide +kernel)
set_option maxRecDepth 20000 in
theorem gX9_mark_X9_find : GoodIn wsX9_mark (wsV RX9 108 RX9 yX9_find wsX9_find) := goodIn_app (goodIn_of _ (by decide +kernel)) ggX9_mark_X9_find
set_option maxRecDepth 20000 in
theorem ggX9_mark_X9_heardBy : GoodIn wsX9_mark wsX9_heardBy := goodIn_r _ [25, 3, 2, 4, 26, 27, 8, 28, 29, 30, 31, 32, 33, 34, 35, 36, 37, 38, 39, 40, 41, 42, 43, 44, 45, 46, 47, 48, 49, 50, 62, 63, 64, 65, 66, 67, 68, 69, 70, 71, 72, 73, 74, 75, 76, 77, 78, 79, 80, 81, 82, 83, 84, 85, 86, 87, 88, 89, 90, 91, 92, 93, 94, 95, 96, 97] (by decide +kernel) (by decide +kernel)
set_option maxRecDepth 20000 in
theorem gX9_mark_X9_heardBy : GoodIn wsX9_mark (wsV RX9 185 RX9 yX9_heardBy wsX9_heardBy) := goodIn_app (goodIn_of _ (by decide +kernel)) ggX9_mark_X9_heardBy
set_option maxRecDepth 20000 in
theorem ggX9_mark_X9_ones : GoodIn wsX9_mark wsX9_ones := goodIn_r _ [53] (by decide +kernel) (by decide +kernel)
set_option maxRecDepth 20000 in
theorem gX9_mark_X9_ones : GoodIn wsX9_mark (va_wsS RX9 202 yX9_ones wsX9_ones) := goodIn_app (goodIn_of _ (by decide +kernel)) ggX9_mark_X9_ones
set_option maxRecDepth 20000 in
theorem ggX9_mark_X9_noiseIn : GoodIn wsX9_mark wsX9_noiseIn := goodIn_r _ [44, 3, 2, 4, 26, 27, 8, 28, 45, 46, 47, 33, 34, 35, 36, 37, 38, 39, 40, 62, 63, 64, 65, 66, 67, 68, 69, 70, 71, 72, 73, 74, 75, 76, 77, 78, 79, 80, 81, 82, 83, 84, 85, 86, 87, 88, 89, 90, 91, 92, 93, 94, 95, 96, 97] (by decide +kernel) (by decide +kernel)
set_option maxRecDepth 20000 in
theorem gX9_mark_X9_noiseIn : GoodIn wsX9_mark (wsV RX9 178 RX9 yX9_noiseIn wsX9_noiseIn) := goodIn_app (goodIn_of _ (by decide +kernel)) ggX9_mark_X9_noiseIn
set_option maxRecDepth 20000 in
theorem ggX9_mark_X9_manyHeard : GoodIn wsX9_mark wsX9_manyHeard := goodIn_r _ [57, 3, 58, 59, 60, 8, 61, 22, 23, 24, 25, 2, 4, 26, 27, 28, 29, 30, 31, 32, 33, 34, 35, 36, 37, 38, 39, 40, 41, 42, 43, 44, 45, 46, 47, 48, 49, 50, 62, 63, 64, 65, 66, 67, 68, 69, 70, 71, 72, 73, 74, 75, 76, 77, 78, 79, 80, 81, 82, 83, 84, 85, 86, 87, 88, 89, 90, 91, 92, 93, 94, 95, 96, 97] (by decide +kernel) (by decide +kernel)
set_option maxRecDepth 20000 in
theorem gX9_mark_X9_manyHeard : GoodIn wsX9_mark (wsV RX9 205 RX9 yX9_manyHeard wsX9_manyHeard) := goodIn_app (goodIn_of _ (by decide +kernel)) ggX9_mark_X9_manyHeard
set_option maxRecDepth 20000 in
theorem ggX9_mark_X9_doesHear : GoodIn wsX9_mark wsX9_doesHear := goodIn_r _ [61, 22, 23, 24, 8, 25, 3, 2, 4, 26, 27, 28, 29, 30, 31, 32, 33, 34, 35, 36, 37, 38, 39, 40, 41, 42, 43, 44, 45, 46, 47, 48, 49, 50, 62, 63, 64, 65, 66, 67, 68, 69, 70, 71, 72, 73, 74, 75, 76, 77, 78, 79, 80, 81, 82, 83, 84, 85, 86, 87, 88, 89, 90, 91, 92, 93, 94, 95, 96, 97] (by decide +kernel) (by decide +kernel)
set_option maxRecDepth 20000 in
theorem gX9_mark_X9_doesHear : GoodIn wsX9_mark (wsV RX9 196 RX9 yX9_doesHear wsX9_doesHear) := goodIn_app (goodIn_of _ (by decide +kernel)) ggX9_mark_X9_doesHear
set_option maxRecDepth 20000 in
theorem ggX9_mark_X9_comesTo : GoodIn wsX9_mark wsX9_comesTo := goodIn_r _ [32, 2, 4, 33, 34, 8, 35, 36, 37, 38, 39, 40, 62, 63, 64, 65, 66, 67, 68, 69, 70, 71, 72, 73, 74, 75, 76, 77, 78, 79, 80, 81, 82, 83, 84, 85, 86, 87, 88, 89, 90, 91, 92, 93, 94, 95, 96, 97] (by decide +kernel) (by decide +kernel)
