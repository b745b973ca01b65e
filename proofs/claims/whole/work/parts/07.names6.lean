theorem dX9_tell_114 : decode cX9_tell 114 = .ok (.aload_n 0, 1) := by decide +kernel
theorem dX9_tell_115 : decode cX9_tell 115 = .ok (.getfield 34, 3) := by decide +kernel
theorem dX9_tell_118 : decode cX9_tell 118 = .ok (.iload_n 2, 1) := by decide +kernel
theorem dX9_tell_119 : decode cX9_tell 119 = .ok (.dup2, 1) := by decide +kernel
theorem dX9_tell_120 : decode cX9_tell 120 = .ok (.iaload, 1) := by decide +kernel
theorem dX9_tell_121 : decode cX9_tell 121 = .ok (.aload_n 0, 1) := by decide +kernel
theorem dX9_tell_122 : decode cX9_tell 122 = .ok (.getfield 43, 3) := by decide +kernel
theorem dX9_tell_125 : decode cX9_tell 125 = .ok (.aload_n 0, 1) := by decide +kernel
theorem dX9_tell_126 : decode cX9_tell 126 = .ok (.getfield 159, 3) := by decide +kernel
theorem dX9_tell_129 : decode cX9_tell 129 = .ok (.iaload, 1) := by decide +kernel
theorem dX9_tell_130 : decode cX9_tell 130 = .ok (.ior, 1) := by decide +kernel
theorem dX9_tell_131 : decode cX9_tell 131 = .ok (.iastore, 1) := by decide +kernel
theorem dX9_tell_132 : decode cX9_tell 132 = .ok (.aload_n 0, 1) := by decide +kernel
theorem dX9_tell_133 : decode cX9_tell 133 = .ok (.dup, 1) := by decide +kernel
theorem dX9_tell_134 : decode cX9_tell 134 = .ok (.getfield 159, 3) := by decide +kernel
theorem dX9_tell_137 : decode cX9_tell 137 = .ok (.iconst 1, 1) := by decide +kernel
theorem dX9_tell_138 : decode cX9_tell 138 = .ok (.iadd, 1) := by decide +kernel
theorem dX9_tell_139 : decode cX9_tell 139 = .ok (.putfield 159, 3) := by decide +kernel
theorem dX9_tell_142 : decode cX9_tell 142 = .ok (.aload_n 0, 1) := by decide +kernel
theorem dX9_tell_143 : decode cX9_tell 143 = .ok (.getfield 34, 3) := by decide +kernel
theorem dX9_tell_146 : decode cX9_tell 146 = .ok (.iload_n 2, 1) := by decide +kernel
theorem dX9_tell_147 : decode cX9_tell 147 = .ok (.iaload, 1) := by decide +kernel
theorem dX9_tell_148 : decode cX9_tell 148 = .ok (.ireturn, 1) := by decide +kernel
set_option maxRecDepth 20000 in
theorem ggX9_undo_X9_in : GoodIn wsX9_undo wsX9_in := goodIn_r _ [7] (by decide +kernel) (by decide +kernel)
set_option maxRecDepth 20000 in
theorem gX9_undo_X9_in : GoodIn wsX9_undo (va_wsS RX9 98 yX9_in wsX9_in) := goodIn_app (goodIn_of _ (by decide +kernel)) ggX9_undo_X9_in
theorem dX9_undo_0 : decode cX9_undo 0 = .ok (.iload_n 1, 1) := by decide +kernel
theorem dX9_undo_1 : decode cX9_undo 1 = .ok (.i2l, 1) := by decide +kernel
theorem dX9_undo_2 : decode cX9_undo 2 = .ok (.lconst 0, 1) := by decide +kernel
theorem dX9_undo_3 : decode cX9_undo 3 = .ok (.aload_n 0, 1) := by decide +kernel
theorem dX9_undo_4 : decode cX9_undo 4 = .ok (.getfield 159, 3) := by decide +kernel
theorem dX9_undo_7 : decode cX9_undo 7 = .ok (.i2l, 1) := by decide +kernel
theorem dX9_undo_8 : decode cX9_undo 8 = .ok (.invokestatic 98, 3) := by decide +kernel
theorem dX9_undo_11 : decode cX9_undo 11 = .ok (.ifCond .ne 5, 3) := by decide +kernel
theorem dX9_undo_14 : decode cX9_undo 14 = .ok (.iconst (-1), 1) := by decide +kernel
theorem dX9_undo_15 : decode cX9_undo 15 = .ok (.ireturn, 1) := by decide +kernel
theorem dX9_undo_16 : decode cX9_undo 16 = .ok (.aload_n 0, 1) := by decide +kernel
theorem dX9_undo_17 : decode cX9_undo 17 = .ok (.getfield 159, 3) := by decide +kernel
theorem dX9_undo_20 : decode cX9_undo 20 = .ok (.iload_n 1, 1) := by decide +kernel
theorem dX9_undo_21 : decode cX9_undo 21 = .ok (.isub, 1) := by decide +kernel
theorem dX9_undo_22 : decode cX9_undo 22 = .ok (.istore_n 2, 1) := by decide +kernel
theorem dX9_undo_23 : decode cX9_undo 23 = .ok (.iconst 0, 1) := by decide +kernel
theorem dX9_undo_24 : decode cX9_undo 24 = .ok (.istore_n 3, 1) := by decide +kernel
theorem dX9_undo_25 : decode cX9_undo 25 = .ok (.iload_n 3, 1) := by decide +kernel
theorem dX9_undo_26 : decode cX9_undo 26 = .ok (.bipush 8, 2) := by decide +kernel
theorem dX9_undo_28 : decode cX9_undo 28 = .ok (.if_icmp .ge 30, 3) := by decide +kernel
theorem dX9_undo_31 : decode cX9_undo 31 = .ok (.iload_n 2, 1) := by decide +kernel
theorem dX9_undo_32 : decode cX9_undo 32 = .ok (.ifCond .le 26, 3) := by decide +kernel
theorem dX9_undo_35 : decode cX9_undo 35 = .ok (.aload_n 0, 1) := by decide +kernel
theorem dX9_undo_36 : decode cX9_undo 36 = .ok (.getfield 34, 3) := by decide +kernel
theorem dX9_undo_39 : decode cX9_undo 39 = .ok (.iload_n 3, 1) := by decide +kernel
theorem dX9_undo_40 : decode cX9_undo 40 = .ok (.aload_n 0, 1) := by decide +kernel
theorem dX9_undo_41 : decode cX9_undo 41 = .ok (.getfield 46, 3) := by decide +kernel
theorem dX9_undo_44 : decode cX9_undo 44 = .ok (.bipush 8, 2) := by decide +kernel
theorem dX9_undo_46 : decode cX9_undo 46 = .ok (.iload_n 1, 1) := by decide +kernel
theorem dX9_undo_47 : decode cX9_undo 47 = .ok (.imul, 1) := by decide +kernel
theorem dX9_undo_48 : decode cX9_undo 48 = .ok (.iload_n 3, 1) := by decide +kernel
theorem dX9_undo_49 : decode cX9_undo 49 = .ok (.iadd, 1) := by decide +kernel
theorem dX9_undo_50 : decode cX9_undo 50 = .ok (.iaload, 1) := by decide +kernel
theorem dX9_undo_51 : decode cX9_undo 51 = .ok (.iastore, 1) := by decide +kernel
theorem dX9_undo_52 : decode cX9_undo 52 = .ok (.iinc 3 1, 3) := by decide +kernel
theorem dX9_undo_55 : decode cX9_undo 55 = .ok (.goto (-30), 3) := by decide +kernel
theorem dX9_undo_58 : decode cX9_undo 58 = .ok (.aload_n 0, 1) := by decide +kernel
theorem dX9_undo_59 : decode cX9_undo 59 = .ok (.iload_n 1, 1) := by decide +kernel
theorem dX9_undo_60 : decode cX9_undo 60 = .ok (.putfield 159, 3) := by decide +kernel
theorem dX9_undo_63 : decode cX9_undo 63 = .ok (.iload_n 2, 1) := by decide +kernel
theorem dX9_undo_64 : decode cX9_undo 64 = .ok (.ireturn, 1) := by decide +kernel
set_option maxRecDepth 20000 in
theorem ggX9_know_X9_isThing : GoodIn wsX9_know wsX9_isThing := goodIn_r _ [5, 6, 7, 8, 4, 9] (by decide +kernel) (by decide +kernel)
set_option maxRecDepth 20000 in
theorem gX9_know_X9_isThing : GoodIn wsX9_know (va_wsS RX9 257 yX9_isThing wsX9_isThing) := goodIn_app (goodIn_of _ (by decide +kernel)) ggX9_know_X9_isThing
theorem dX9_know_0 : decode cX9_know 0 = .ok (.iload_n 1, 1) := by decide +kernel
theorem dX9_know_1 : decode cX9_know 1 = .ok (.invokestatic 257, 3) := by decide +kernel
theorem dX9_know_4 : decode cX9_know 4 = .ok (.ifCond .eq 12, 3) := by decide +kernel
theorem dX9_know_7 : decode cX9_know 7 = .ok (.aload_n 0, 1) := by decide +kernel
theorem dX9_know_8 : decode cX9_know 8 = .ok (.getfield 34, 3) := by decide +kernel
theorem dX9_know_11 : decode cX9_know 11 = .ok (.iload_n 1, 1) := by decide +kernel
theorem dX9_know_12 : decode cX9_know 12 = .ok (.iaload, 1) := by decide +kernel
theorem dX9_know_13 : decode cX9_know 13 = .ok (.goto 4, 3) := by decide +kernel
theorem dX9_know_16 : decode cX9_know 16 = .ok (.iconst (-1), 1) := by decide +kernel
theorem dX9_know_17 : decode cX9_know 17 = .ok (.ireturn, 1) := by decide +kernel
set_option maxRecDepth 20000 in
theorem ggX9_knowsThat_X9_areTwo : GoodIn wsX9_knowsThat wsX9_areTwo := goodIn_r _ [9, 10, 11, 12, 8, 13, 14, 15, 16, 17, 57, 58, 59, 60, 61, 62, 63, 64, 65, 66, 67, 68, 69, 70, 71, 72, 73, 74, 75, 76, 77, 78, 79, 80, 81, 82, 83, 84, 85, 86, 87, 88, 89, 90, 91, 92] (by decide +kernel) (by decide +kernel)
set_option maxRecDepth 20000 in
theorem gX9_knowsThat_X9_areTwo : GoodIn wsX9_knowsThat (wsV RX9 213 RX9 yX9_areTwo wsX9_areTwo) := goodIn_app (goodIn_of _ (by decide +kernel)) ggX9_knowsThat_X9_areTwo
set_option maxRecDepth 20000 in
theorem ggX9_knowsThat_X9_isThing : GoodIn wsX9_knowsThat wsX9_isThing := goodIn_r _ [20, 21, 15, 16, 8, 17] (by decide +kernel) (by decide +kernel)
set_option maxRecDepth 20000 in
theorem gX9_knowsThat_X9_isThing : GoodIn wsX9_knowsThat (va_wsS RX9 257 yX9_isThing wsX9_isThing) := goodIn_app (goodIn_of _ (by decide +kernel)) ggX9_knowsThat_X9_isThing
set_option maxRecDepth 20000 in
theorem ggX9_knowsThat_X9_doesHear : GoodIn wsX9_knowsThat wsX9_doesHear := goodIn_r _ [25, 26, 27, 28, 8, 29, 14, 30, 31, 32, 33, 34, 35, 36, 37, 38, 39, 40, 41, 42, 43, 44, 45, 46, 47, 48, 49, 50, 51, 52, 53, 54, 55, 56, 57, 58, 59, 60, 61, 62, 63, 64, 65, 66, 67, 68, 69, 70, 71, 72, 73, 74, 75, 76, 77, 78, 79, 80, 81, 82, 83, 84, 85, 86, 87, 88, 89, 90, 91, 92] (by decide +kernel) (by decide +kernel)
set_option maxRecDepth 20000 in
theorem gX9_knowsThat_X9_doesHear : GoodIn wsX9_knowsThat (wsV RX9 196 RX9 yX9_doesHear wsX9_doesHear) := goodIn_app (goodIn_of _ (by decide +kernel)) ggX9_knowsThat_X9_doesHear
set_option maxRecDepth 20000 in
theorem ggX9_knowsThat_X9_has : GoodIn wsX9_knowsThat wsX9_has := goodIn_r _ [34] (by decide +kernel) (by decide +kernel)
set_option maxRecDepth 20000 in
theorem gX9_knowsThat_X9_has : GoodIn wsX9_knowsThat (va_wsS RX9 165 yX9_has wsX9_has) := goodIn_app (goodIn_of _ (by decide +kernel)) ggX9_knowsThat_X9_has
theorem dX9_knowsThat_0 : decode cX9_knowsThat 0 = .ok (.aload_n 0, 1) := by decide +kernel
theorem dX9_knowsThat_1 : decode cX9_knowsThat 1 = .ok (.iload_n 1, 1) := by decide +kernel
theorem dX9_knowsThat_2 : decode cX9_knowsThat 2 = .ok (.iload_n 2, 1) := by decide +kernel
theorem dX9_knowsThat_3 : decode cX9_knowsThat 3 = .ok (.invokevirtual 213, 3) := by decide +kernel
theorem dX9_knowsThat_6 : decode cX9_knowsThat 6 = .ok (.ifCond .eq 10, 3) := by decide +kernel
theorem dX9_knowsThat_9 : decode cX9_knowsThat 9 = .ok (.iload_n 3, 1) := by decide +kernel
theorem dX9_knowsThat_10 : decode cX9_knowsThat 10 = .ok (.invokestatic 257, 3) := by decide +kernel
theorem dX9_knowsThat_13 : decode cX9_knowsThat 13 = .ok (.ifCond .ne 5, 3) := by decide +kernel
theorem dX9_knowsThat_16 : decode cX9_knowsThat 16 = .ok (.iconst (-1), 1) := by decide +kernel
theorem dX9_knowsThat_17 : decode cX9_knowsThat 17 = .ok (.ireturn, 1) := by decide +kernel
theorem dX9_knowsThat_18 : decode cX9_knowsThat 18 = .ok (.iconst 0, 1) := by decide +kernel
theorem dX9_knowsThat_19 : decode cX9_knowsThat 19 = .ok (.istore 4, 2) := by decide +kernel
theorem dX9_knowsThat_21 : decode cX9_knowsThat 21 = .ok (.aload_n 0, 1) := by decide +kernel
theorem dX9_knowsThat_22 : decode cX9_knowsThat 22 = .ok (.iload_n 1, 1) := by decide +kernel
theorem dX9_knowsThat_23 : decode cX9_knowsThat 23 = .ok (.iload_n 2, 1) := by decide +kernel
theorem dX9_knowsThat_24 : decode cX9_knowsThat 24 = .ok (.invokevirtual 196, 3) := by decide +kernel
theorem dX9_knowsThat_27 : decode cX9_knowsThat 27 = .ok (.istore 5, 2) := by decide +kernel
theorem dX9_knowsThat_29 : decode cX9_knowsThat 29 = .ok (.iconst 0, 1) := by decide +kernel
theorem dX9_knowsThat_30 : decode cX9_knowsThat 30 = .ok (.istore 6, 2) := by decide +kernel
theorem dX9_knowsThat_32 : decode cX9_knowsThat 32 = .ok (.iload 6, 2) := by decide +kernel
theorem dX9_knowsThat_34 : decode cX9_knowsThat 34 = .ok (.aload_n 0, 1) := by decide +kernel
theorem dX9_knowsThat_35 : decode cX9_knowsThat 35 = .ok (.getfield 159, 3) := by decide +kernel
theorem dX9_knowsThat_38 : decode cX9_knowsThat 38 = .ok (.if_icmp .ge 139, 3) := by decide +kernel
theorem dX9_knowsThat_41 : decode cX9_knowsThat 41 = .ok (.aload_n 0, 1) := by decide +kernel
theorem dX9_knowsThat_42 : decode cX9_knowsThat 42 = .ok (.getfield 43, 3) := by decide +kernel
theorem dX9_knowsThat_45 : decode cX9_knowsThat 45 = .ok (.iload 6, 2) := by decide +kernel
theorem dX9_knowsThat_47 : decode cX9_knowsThat 47 = .ok (.iaload, 1) := by decide +kernel
theorem dX9_knowsThat_48 : decode cX9_knowsThat 48 = .ok (.iload_n 1, 1) := by decide +kernel
theorem dX9_knowsThat_49 : decode cX9_knowsThat 49 = .ok (.invokestatic 165, 3) := by decide +kernel
theorem dX9_knowsThat_52 : decode cX9_knowsThat 52 = .ok (.ifCond .eq 26, 3) := by decide +kernel
theorem dX9_knowsThat_55 : decode cX9_knowsThat 55 = .ok (.aload_n 0, 1) := by decide +kernel
theorem dX9_knowsThat_56 : decode cX9_knowsThat 56 = .ok (.getfield 43, 3) := by decide +kernel
theorem dX9_knowsThat_59 : decode cX9_knowsThat 59 = .ok (.iload 6, 2) := by decide +kernel
theorem dX9_knowsThat_61 : decode cX9_knowsThat 61 = .ok (.iaload, 1) := by decide +kernel
theorem dX9_knowsThat_62 : decode cX9_knowsThat 62 = .ok (.iload_n 2, 1) := by decide +kernel
theorem dX9_knowsThat_63 : decode cX9_knowsThat 63 = .ok (.invokestatic 165, 3) := by decide +kernel
theorem dX9_knowsThat_66 : decode cX9_knowsThat 66 = .ok (.ifCond .eq 12, 3) := by decide +kernel
theorem dX9_knowsThat_69 : decode cX9_knowsThat 69 = .ok (.iload 5, 2) := by decide +kernel
theorem dX9_knowsThat_71 : decode cX9_knowsThat 71 = .ok (.ifCond .eq 7, 3) := by decide +kernel
theorem dX9_knowsThat_74 : decode cX9_knowsThat 74 = .ok (.iconst 1, 1) := by decide +kernel
theorem dX9_knowsThat_75 : decode cX9_knowsThat 75 = .ok (.goto 4, 3) := by decide +kernel
theorem dX9_knowsThat_78 : decode cX9_knowsThat 78 = .ok (.iconst 0, 1) := by decide +kernel
theorem dX9_knowsThat_79 : decode cX9_knowsThat 79 = .ok (.istore 7, 2) := by decide +kernel
theorem dX9_knowsThat_81 : decode cX9_knowsThat 81 = .ok (.aload_n 0, 1) := by decide +kernel
theorem dX9_knowsThat_82 : decode cX9_knowsThat 82 = .ok (.getfield 37, 3) := by decide +kernel
theorem dX9_knowsThat_85 : decode cX9_knowsThat 85 = .ok (.iload 6, 2) := by decide +kernel
theorem dX9_knowsThat_87 : decode cX9_knowsThat 87 = .ok (.iaload, 1) := by decide +kernel
theorem dX9_knowsThat_88 : decode cX9_knowsThat 88 = .ok (.iload_n 1, 1) := by decide +kernel
theorem dX9_knowsThat_89 : decode cX9_knowsThat 89 = .ok (.if_icmp .ne 17, 3) := by decide +kernel
theorem dX9_knowsThat_92 : decode cX9_knowsThat 92 = .ok (.aload_n 0, 1) := by decide +kernel
theorem dX9_knowsThat_93 : decode cX9_knowsThat 93 = .ok (.getfield 43, 3) := by decide +kernel
theorem dX9_knowsThat_96 : decode cX9_knowsThat 96 = .ok (.iload 6, 2) := by decide +kernel
theorem dX9_knowsThat_98 : decode cX9_knowsThat 98 = .ok (.iaload, 1) := by decide +kernel
theorem dX9_knowsThat_99 : decode cX9_knowsThat 99 = .ok (.iload_n 2, 1) := by decide +kernel
theorem dX9_knowsThat_100 : decode cX9_knowsThat 100 = .ok (.invokestatic 165, 3) := by decide +kernel
theorem dX9_knowsThat_103 : decode cX9_knowsThat 103 = .ok (.ifCond .ne 28, 3) := by decide +kernel
theorem dX9_knowsThat_106 : decode cX9_knowsThat 106 = .ok (.aload_n 0, 1) := by decide +kernel
theorem dX9_knowsThat_107 : decode cX9_knowsThat 107 = .ok (.getfield 37, 3) := by decide +kernel
theorem dX9_knowsThat_110 : decode cX9_knowsThat 110 = .ok (.iload 6, 2) := by decide +kernel
theorem dX9_knowsThat_112 : decode cX9_knowsThat 112 = .ok (.iaload, 1) := by decide +kernel
theorem dX9_knowsThat_113 : decode cX9_knowsThat 113 = .ok (.iload_n 2, 1) := by decide +kernel
theorem dX9_knowsThat_114 : decode cX9_knowsThat 114 = .ok (.if_icmp .ne 21, 3) := by decide +kernel
theorem dX9_knowsThat_117 : decode cX9_knowsThat 117 = .ok (.aload_n 0, 1) := by decide +kernel
theorem dX9_knowsThat_118 : decode cX9_knowsThat 118 = .ok (.getfield 43, 3) := by decide +kernel
theorem dX9_knowsThat_121 : decode cX9_knowsThat 121 = .ok (.iload 6, 2) := by decide +kernel
theorem dX9_knowsThat_123 : decode cX9_knowsThat 123 = .ok (.iaload, 1) := by decide +kernel
theorem dX9_knowsThat_124 : decode cX9_knowsThat 124 = .ok (.iload_n 1, 1) := by decide +kernel
theorem dX9_knowsThat_125 : decode cX9_knowsThat 125 = .ok (.invokestatic 165, 3) := by decide +kernel
theorem dX9_knowsThat_128 : decode cX9_knowsThat 128 = .ok (.ifCond .eq 7, 3) := by decide +kernel
theorem dX9_knowsThat_131 : decode cX9_knowsThat 131 = .ok (.iconst 1, 1) := by decide +kernel
theorem dX9_knowsThat_132 : decode cX9_knowsThat 132 = .ok (.goto 4, 3) := by decide +kernel
theorem dX9_knowsThat_135 : decode cX9_knowsThat 135 = .ok (.iconst 0, 1) := by decide +kernel
theorem dX9_knowsThat_136 : decode cX9_knowsThat 136 = .ok (.istore 8, 2) := by decide +kernel
theorem dX9_knowsThat_138 : decode cX9_knowsThat 138 = .ok (.iload 4, 2) := by decide +kernel
theorem dX9_knowsThat_140 : decode cX9_knowsThat 140 = .ok (.ifCond .ne 24, 3) := by decide +kernel
theorem dX9_knowsThat_143 : decode cX9_knowsThat 143 = .ok (.aload_n 0, 1) := by decide +kernel
theorem dX9_knowsThat_144 : decode cX9_knowsThat 144 = .ok (.getfield 40, 3) := by decide +kernel
theorem dX9_knowsThat_147 : decode cX9_knowsThat 147 = .ok (.iload 6, 2) := by decide +kernel
theorem dX9_knowsThat_149 : decode cX9_knowsThat 149 = .ok (.iaload, 1) := by decide +kernel
theorem dX9_knowsThat_150 : decode cX9_knowsThat 150 = .ok (.iload_n 3, 1) := by decide +kernel
theorem dX9_knowsThat_151 : decode cX9_knowsThat 151 = .ok (.if_icmp .ne 17, 3) := by decide +kernel
theorem dX9_knowsThat_154 : decode cX9_knowsThat 154 = .ok (.iload 7, 2) := by decide +kernel
theorem dX9_knowsThat_156 : decode cX9_knowsThat 156 = .ok (.ifCond .ne 8, 3) := by decide +kernel
theorem dX9_knowsThat_159 : decode cX9_knowsThat 159 = .ok (.iload 8, 2) := by decide +kernel
theorem dX9_knowsThat_161 : decode cX9_knowsThat 161 = .ok (.ifCond .eq 7, 3) := by decide +kernel
theorem dX9_knowsThat_164 : decode cX9_knowsThat 164 = .ok (.iconst 1, 1) := by decide +kernel
theorem dX9_knowsThat_165 : decode cX9_knowsThat 165 = .ok (.goto 4, 3) := by decide +kernel
theorem dX9_knowsThat_168 : decode cX9_knowsThat 168 = .ok (.iconst 0, 1) := by decide +kernel
theorem dX9_knowsThat_169 : decode cX9_knowsThat 169 = .ok (.istore 4, 2) := by decide +kernel
theorem dX9_knowsThat_171 : decode cX9_knowsThat 171 = .ok (.iinc 6 1, 3) := by decide +kernel
theorem dX9_knowsThat_174 : decode cX9_knowsThat 174 = .ok (.goto (-142), 3) := by decide +kernel
theorem dX9_knowsThat_177 : decode cX9_knowsThat 177 = .ok (.iload 4, 2) := by decide +kernel
theorem dX9_knowsThat_179 : decode cX9_knowsThat 179 = .ok (.ifCond .eq 7, 3) := by decide +kernel
theorem dX9_knowsThat_182 : decode cX9_knowsThat 182 = .ok (.iconst 1, 1) := by decide +kernel
theorem dX9_knowsThat_183 : decode cX9_knowsThat 183 = .ok (.goto 4, 3) := by decide +kernel
theorem dX9_knowsThat_186 : decode cX9_knowsThat 186 = .ok (.iconst 0, 1) := by decide +kernel
theorem dX9_knowsThat_187 : decode cX9_knowsThat 187 = .ok (.ireturn, 1) := by decide +kernel
set_option maxRecDepth 20000 in
theorem ggX9_spread_X9_isThing : GoodIn wsX9_spread wsX9_isThing := goodIn_r _ [7, 8, 9, 10, 6, 11] (by decide +kernel) (by decide +kernel)
set_option maxRecDepth 20000 in
theorem gX9_spread_X9_isThing : GoodIn wsX9_spread (va_wsS RX9 257 yX9_isThing wsX9_isThing) := goodIn_app (goodIn_of _ (by decide +kernel)) ggX9_spread_X9_isThing
set_option maxRecDepth 20000 in
theorem ggX9_spread_X9_in : GoodIn wsX9_spread wsX9_in := goodIn_r _ [11] (by decide +kernel) (by decide +kernel)
set_option maxRecDepth 20000 in
theorem gX9_spread_X9_in : GoodIn wsX9_spread (va_wsS RX9 98 yX9_in wsX9_in) := goodIn_app (goodIn_of _ (by decide +kernel)) ggX9_spread_X9_in
set_option maxRecDepth 20000 in
theorem ggX9_spread_X9_has : GoodIn wsX9_spread wsX9_has := goodIn_r _ [14] (by decide +kernel) (by decide +kernel)
set_option maxRecDepth 20000 in
theorem gX9_spread_X9_has : GoodIn wsX9_spread (va_wsS RX9 165 yX9_has wsX9_has) := goodIn_app (goodIn_of _ (by decide +kernel)) ggX9_spread_X9_has
set_option maxRecDepth 20000 in
theorem ggX9_spread_X9_heardBy : GoodIn wsX9_spread wsX9_heardBy := goodIn_r _ [18, 3, 19, 20, 12, 13, 6, 14, 21, 22, 23, 24, 25, 26, 27, 28, 29, 30, 31, 32, 33, 34, 35, 36, 37, 38, 39, 40, 41, 42, 43, 44, 45, 46, 47, 48, 49, 50, 51, 52, 53, 54, 55, 56, 57, 58, 59, 60, 61, 62, 63, 64, 65, 66, 67, 68, 69, 70, 71, 72, 73, 74, 75, 76, 77, 78] (by decide +kernel) (by decide +kernel)
set_option maxRecDepth 20000 in
theorem gX9_spread_X9_heardBy : GoodIn wsX9_spread (wsV RX9 185 RX9 yX9_heardBy wsX9_heardBy) := goodIn_app (goodIn_of _ (by decide +kernel)) ggX9_spread_X9_heardBy
theorem dX9_spread_0 : decode cX9_spread 0 = .ok (.iload_n 1, 1) := by decide +kernel
theorem dX9_spread_1 : decode cX9_spread 1 = .ok (.invokestatic 257, 3) := by decide +kernel
theorem dX9_spread_4 : decode cX9_spread 4 = .ok (.ifCond .eq 15, 3) := by decide +kernel
theorem dX9_spread_7 : decode cX9_spread 7 = .ok (.iload_n 2, 1) := by decide +kernel
theorem dX9_spread_8 : decode cX9_spread 8 = .ok (.i2l, 1) := by decide +kernel
theorem dX9_spread_9 : decode cX9_spread 9 = .ok (.lconst 0, 1) := by decide +kernel
theorem dX9_spread_10 : decode cX9_spread 10 = .ok (.ldc2_w 208, 3) := by decide +kernel
theorem dX9_spread_13 : decode cX9_spread 13 = .ok (.invokestatic 98, 3) := by decide +kernel
theorem dX9_spread_16 : decode cX9_spread 16 = .ok (.ifCond .ne 5, 3) := by decide +kernel
theorem dX9_spread_19 : decode cX9_spread 19 = .ok (.iconst (-1), 1) := by decide +kernel
theorem dX9_spread_20 : decode cX9_spread 20 = .ok (.ireturn, 1) := by decide +kernel
theorem dX9_spread_21 : decode cX9_spread 21 = .ok (.aload_n 0, 1) := by decide +kernel
theorem dX9_spread_22 : decode cX9_spread 22 = .ok (.getfield 34, 3) := by decide +kernel
theorem dX9_spread_25 : decode cX9_spread 25 = .ok (.iload_n 1, 1) := by decide +kernel
theorem dX9_spread_26 : decode cX9_spread 26 = .ok (.iaload, 1) := by decide +kernel
theorem dX9_spread_27 : decode cX9_spread 27 = .ok (.istore_n 3, 1) := by decide +kernel
theorem dX9_spread_28 : decode cX9_spread 28 = .ok (.iconst 0, 1) := by decide +kernel
theorem dX9_spread_29 : decode cX9_spread 29 = .ok (.istore 4, 2) := by decide +kernel
theorem dX9_spread_31 : decode cX9_spread 31 = .ok (.iload 4, 2) := by decide +kernel
theorem dX9_spread_33 : decode cX9_spread 33 = .ok (.iload_n 2, 1) := by decide +kernel
theorem dX9_spread_34 : decode cX9_spread 34 = .ok (.if_icmp .ge 58, 3) := by decide +kernel
theorem dX9_spread_37 : decode cX9_spread 37 = .ok (.iload_n 3, 1) := by decide +kernel
theorem dX9_spread_38 : decode cX9_spread 38 = .ok (.istore 5, 2) := by decide +kernel
theorem dX9_spread_40 : decode cX9_spread 40 = .ok (.iconst 0, 1) := by decide +kernel
theorem dX9_spread_41 : decode cX9_spread 41 = .ok (.istore 6, 2) := by decide +kernel
theorem dX9_spread_43 : decode cX9_spread 43 = .ok (.iload 6, 2) := by decide +kernel
theorem dX9_spread_45 : decode cX9_spread 45 = .ok (.aload_n 0, 1) := by decide +kernel
theorem dX9_spread_46 : decode cX9_spread 46 = .ok (.getfield 153, 3) := by decide +kernel
theorem dX9_spread_49 : decode cX9_spread 49 = .ok (.if_icmp .ge 34, 3) := by decide +kernel
theorem dX9_spread_52 : decode cX9_spread 52 = .ok (.iload 5, 2) := by decide +kernel
theorem dX9_spread_54 : decode cX9_spread 54 = .ok (.iload_n 3, 1) := by decide +kernel
theorem dX9_spread_55 : decode cX9_spread 55 = .ok (.iload 6, 2) := by decide +kernel
theorem dX9_spread_57 : decode cX9_spread 57 = .ok (.invokestatic 165, 3) := by decide +kernel
theorem dX9_spread_60 : decode cX9_spread 60 = .ok (.ifCond .eq 13, 3) := by decide +kernel
theorem dX9_spread_63 : decode cX9_spread 63 = .ok (.aload_n 0, 1) := by decide +kernel
theorem dX9_spread_64 : decode cX9_spread 64 = .ok (.iload 6, 2) := by decide +kernel
theorem dX9_spread_66 : decode cX9_spread 66 = .ok (.iconst 0, 1) := by decide +kernel
theorem dX9_spread_67 : decode cX9_spread 67 = .ok (.invokevirtual 185, 3) := by decide +kernel
theorem dX9_spread_70 : decode cX9_spread 70 = .ok (.goto 4, 3) := by decide +kernel
theorem dX9_spread_73 : decode cX9_spread 73 = .ok (.iconst 0, 1) := by decide +kernel
theorem dX9_spread_74 : decode cX9_spread 74 = .ok (.ior, 1) := by decide +kernel
theorem dX9_spread_75 : decode cX9_spread 75 = .ok (.istore 5, 2) := by decide +kernel
theorem dX9_spread_77 : decode cX9_spread 77 = .ok (.iinc 6 1, 3) := by decide +kernel
theorem dX9_spread_80 : decode cX9_spread 80 = .ok (.goto (-37), 3) := by decide +kernel
theorem dX9_spread_83 : decode cX9_spread 83 = .ok (.iload 5, 2) := by decide +kernel
theorem dX9_spread_85 : decode cX9_spread 85 = .ok (.istore_n 3, 1) := by decide +kernel
theorem dX9_spread_86 : decode cX9_spread 86 = .ok (.iinc 4 1, 3) := by decide +kernel
theorem dX9_spread_89 : decode cX9_spread 89 = .ok (.goto (-58), 3) := by decide +kernel
theorem dX9_spread_92 : decode cX9_spread 92 = .ok (.iload_n 3, 1) := by decide +kernel
theorem dX9_spread_93 : decode cX9_spread 93 = .ok (.ireturn, 1) := by decide +kernel
set_option maxRecDepth 20000 in
theorem ggX9_leak_X9_isSet : GoodIn wsX9_leak wsX9_isSet := goodIn_r _ [6, 1, 7, 8, 5, 9, 41, 42, 43, 44, 45, 46, 47, 48, 49, 50, 51, 52, 53, 54, 55, 56, 57, 58, 59, 60, 61, 62, 63, 64, 65, 66, 67, 68, 69, 70, 71, 72, 73, 74, 75, 76] (by decide +kernel) (by decide +kernel)
set_option maxRecDepth 20000 in
theorem gX9_leak_X9_isSet : GoodIn wsX9_leak (wsV RX9 216 RX9 yX9_isSet wsX9_isSet) := goodIn_app (goodIn_of _ (by decide +kernel)) ggX9_leak_X9_isSet
set_option maxRecDepth 20000 in
theorem ggX9_leak_X9_has : GoodIn wsX9_leak wsX9_has := goodIn_r _ [12] (by decide +kernel) (by decide +kernel)
set_option maxRecDepth 20000 in
theorem gX9_leak_X9_has : GoodIn wsX9_leak (va_wsS RX9 165 yX9_has wsX9_has) := goodIn_app (goodIn_of _ (by decide +kernel)) ggX9_leak_X9_has
set_option maxRecDepth 20000 in
theorem ggX9_leak_X9_heardBy : GoodIn wsX9_leak wsX9_heardBy := goodIn_r _ [16, 1, 17, 18, 10, 11, 5, 12, 19, 20, 21, 22, 23, 24, 25, 26, 27, 28, 29, 30, 31, 32, 33, 34, 35, 36, 37, 38, 39, 40, 41, 42, 43, 44, 45, 46, 47, 48, 49, 50, 51, 52, 53, 54, 55, 56, 57, 58, 59, 60, 61, 62, 63, 64, 65, 66, 67, 68, 69, 70, 71, 72, 73, 74, 75, 76] (by decide +kernel) (by decide +kernel)
set_option maxRecDepth 20000 in
theorem gX9_leak_X9_heardBy : GoodIn wsX9_leak (wsV RX9 185 RX9 yX9_heardBy wsX9_heardBy) := goodIn_app (goodIn_of _ (by decide +kernel)) ggX9_leak_X9_heardBy
theorem dX9_leak_0 : decode cX9_leak 0 = .ok (.aload_n 0, 1) := by decide +kernel
theorem dX9_leak_1 : decode cX9_leak 1 = .ok (.iload_n 1, 1) := by decide +kernel
theorem dX9_leak_2 : decode cX9_leak 2 = .ok (.invokevirtual 216, 3) := by decide +kernel
theorem dX9_leak_5 : decode cX9_leak 5 = .ok (.ifCond .ne 5, 3) := by decide +kernel
theorem dX9_leak_8 : decode cX9_leak 8 = .ok (.iconst (-1), 1) := by decide +kernel
theorem dX9_leak_9 : decode cX9_leak 9 = .ok (.ireturn, 1) := by decide +kernel
theorem dX9_leak_10 : decode cX9_leak 10 = .ok (.iconst 0, 1) := by decide +kernel
theorem dX9_leak_11 : decode cX9_leak 11 = .ok (.istore_n 2, 1) := by decide +kernel
theorem dX9_leak_12 : decode cX9_leak 12 = .ok (.iconst 0, 1) := by decide +kernel
theorem dX9_leak_13 : decode cX9_leak 13 = .ok (.istore_n 3, 1) := by decide +kernel
theorem dX9_leak_14 : decode cX9_leak 14 = .ok (.iload_n 3, 1) := by decide +kernel
theorem dX9_leak_15 : decode cX9_leak 15 = .ok (.aload_n 0, 1) := by decide +kernel
theorem dX9_leak_16 : decode cX9_leak 16 = .ok (.getfield 153, 3) := by decide +kernel
theorem dX9_leak_19 : decode cX9_leak 19 = .ok (.if_icmp .ge 43, 3) := by decide +kernel
theorem dX9_leak_22 : decode cX9_leak 22 = .ok (.iload_n 2, 1) := by decide +kernel
theorem dX9_leak_23 : decode cX9_leak 23 = .ok (.iload_n 1, 1) := by decide +kernel
theorem dX9_leak_24 : decode cX9_leak 24 = .ok (.iload_n 3, 1) := by decide +kernel
theorem dX9_leak_25 : decode cX9_leak 25 = .ok (.invokestatic 165, 3) := by decide +kernel
theorem dX9_leak_28 : decode cX9_leak 28 = .ok (.ifCond .eq 25, 3) := by decide +kernel
theorem dX9_leak_31 : decode cX9_leak 31 = .ok (.aload_n 0, 1) := by decide +kernel
theorem dX9_leak_32 : decode cX9_leak 32 = .ok (.iload_n 3, 1) := by decide +kernel
theorem dX9_leak_33 : decode cX9_leak 33 = .ok (.iconst 0, 1) := by decide +kernel
theorem dX9_leak_34 : decode cX9_leak 34 = .ok (.invokevirtual 185, 3) := by decide +kernel
theorem dX9_leak_37 : decode cX9_leak 37 = .ok (.iload_n 1, 1) := by decide +kernel
theorem dX9_leak_38 : decode cX9_leak 38 = .ok (.iconst 1, 1) := by decide +kernel
theorem dX9_leak_39 : decode cX9_leak 39 = .ok (.iload_n 3, 1) := by decide +kernel
theorem dX9_leak_40 : decode cX9_leak 40 = .ok (.ishl, 1) := by decide +kernel
theorem dX9_leak_41 : decode cX9_leak 41 = .ok (.iconst (-1), 1) := by decide +kernel
theorem dX9_leak_42 : decode cX9_leak 42 = .ok (.ixor, 1) := by decide +kernel
theorem dX9_leak_43 : decode cX9_leak 43 = .ok (.iand, 1) := by decide +kernel
theorem dX9_leak_44 : decode cX9_leak 44 = .ok (.if_icmp .ne 9, 3) := by decide +kernel
theorem dX9_leak_47 : decode cX9_leak 47 = .ok (.iconst 1, 1) := by decide +kernel
theorem dX9_leak_48 : decode cX9_leak 48 = .ok (.iload_n 3, 1) := by decide +kernel
theorem dX9_leak_49 : decode cX9_leak 49 = .ok (.ishl, 1) := by decide +kernel
theorem dX9_leak_50 : decode cX9_leak 50 = .ok (.goto 4, 3) := by decide +kernel
theorem dX9_leak_53 : decode cX9_leak 53 = .ok (.iconst 0, 1) := by decide +kernel
theorem dX9_leak_54 : decode cX9_leak 54 = .ok (.ior, 1) := by decide +kernel
theorem dX9_leak_55 : decode cX9_leak 55 = .ok (.istore_n 2, 1) := by decide +kernel
theorem dX9_leak_56 : decode cX9_leak 56 = .ok (.iinc 3 1, 3) := by decide +kernel
theorem dX9_leak_59 : decode cX9_leak 59 = .ok (.goto (-45), 3) := by decide +kernel
theorem dX9_leak_62 : decode cX9_leak 62 = .ok (.iload_n 2, 1) := by decide +kernel
theorem dX9_leak_63 : decode cX9_leak 63 = .ok (.ireturn, 1) := by decide +kernel
set_option maxRecDepth 20000 in
theorem ggX9_leaks_X9_isSet : GoodIn wsX9_leaks wsX9_isSet := goodIn_r _ [6, 1, 7, 8, 5, 9, 41, 42, 43, 44, 45, 46, 47, 48, 49, 50, 51, 52, 53, 54, 55, 56, 57, 58, 59, 60, 61, 62, 63, 64, 65, 66, 67, 68, 69, 70, 71, 72, 73, 74, 75, 76] (by decide +kernel) (by decide +kernel)
set_option maxRecDepth 20000 in
theorem gX9_leaks_X9_isSet : GoodIn wsX9_leaks (wsV RX9 216 RX9 yX9_isSet wsX9_isSet) := goodIn_app (goodIn_of _ (by decide +kernel)) ggX9_leaks_X9_isSet
set_option maxRecDepth 20000 in
theorem ggX9_leaks_X9_heardBy : GoodIn wsX9_leaks wsX9_heardBy := goodIn_r _ [13, 1, 14, 15, 16, 17, 5, 18, 19, 20, 21, 22, 23, 24, 25, 26, 27, 28, 29, 30, 31, 32, 33, 34, 35, 36, 37, 38, 39, 40, 41, 42, 43, 44, 45, 46, 47, 48, 49, 50, 51, 52, 53, 54, 55, 56, 57, 58, 59, 60, 61, 62, 63, 64, 65, 66, 67, 68, 69, 70, 71, 72, 73, 74, 75, 76] (by decide +kernel) (by decide +kernel)
set_option maxRecDepth 20000 in
theorem gX9_leaks_X9_heardBy : GoodIn wsX9_leaks (wsV RX9 185 RX9 yX9_heardBy wsX9_heardBy) := goodIn_app (goodIn_of _ (by decide +kernel)) ggX9_leaks_X9_heardBy
set_option maxRecDepth 20000 in
theorem ggX9_leaks_X9_has : GoodIn wsX9_leaks wsX9_has := goodIn_r _ [18] (by decide +kernel) (by decide +kernel)
set_option maxRecDepth 20000 in
theorem gX9_leaks_X9_has : GoodIn wsX9_leaks (va_wsS RX9 165 yX9_has wsX9_has) := goodIn_app (goodIn_of _ (by decide +kernel)) ggX9_leaks_X9_has
theorem dX9_leaks_0 : decode cX9_leaks 0 = .ok (.aload_n 0, 1) := by decide +kernel
theorem dX9_leaks_1 : decode cX9_leaks 1 = .ok (.iload_n 1, 1) := by decide +kernel
theorem dX9_leaks_2 : decode cX9_leaks 2 = .ok (.invokevirtual 216, 3) := by decide +kernel
theorem dX9_leaks_5 : decode cX9_leaks 5 = .ok (.ifCond .ne 5, 3) := by decide +kernel
theorem dX9_leaks_8 : decode cX9_leaks 8 = .ok (.iconst (-1), 1) := by decide +kernel
theorem dX9_leaks_9 : decode cX9_leaks 9 = .ok (.ireturn, 1) := by decide +kernel
theorem dX9_leaks_10 : decode cX9_leaks 10 = .ok (.iconst 0, 1) := by decide +kernel
theorem dX9_leaks_11 : decode cX9_leaks 11 = .ok (.istore_n 2, 1) := by decide +kernel
theorem dX9_leaks_12 : decode cX9_leaks 12 = .ok (.iconst 0, 1) := by decide +kernel
theorem dX9_leaks_13 : decode cX9_leaks 13 = .ok (.istore_n 3, 1) := by decide +kernel
theorem dX9_leaks_14 : decode cX9_leaks 14 = .ok (.iload_n 3, 1) := by decide +kernel
theorem dX9_leaks_15 : decode cX9_leaks 15 = .ok (.aload_n 0, 1) := by decide +kernel
theorem dX9_leaks_16 : decode cX9_leaks 16 = .ok (.getfield 153, 3) := by decide +kernel
theorem dX9_leaks_19 : decode cX9_leaks 19 = .ok (.if_icmp .ge 71, 3) := by decide +kernel
theorem dX9_leaks_22 : decode cX9_leaks 22 = .ok (.aload_n 0, 1) := by decide +kernel
theorem dX9_leaks_23 : decode cX9_leaks 23 = .ok (.iload_n 3, 1) := by decide +kernel
theorem dX9_leaks_24 : decode cX9_leaks 24 = .ok (.iconst 0, 1) := by decide +kernel
theorem dX9_leaks_25 : decode cX9_leaks 25 = .ok (.invokevirtual 185, 3) := by decide +kernel
theorem dX9_leaks_28 : decode cX9_leaks 28 = .ok (.iconst 1, 1) := by decide +kernel
theorem dX9_leaks_29 : decode cX9_leaks 29 = .ok (.iload_n 3, 1) := by decide +kernel
theorem dX9_leaks_30 : decode cX9_leaks 30 = .ok (.ishl, 1) := by decide +kernel
theorem dX9_leaks_31 : decode cX9_leaks 31 = .ok (.ior, 1) := by decide +kernel
theorem dX9_leaks_32 : decode cX9_leaks 32 = .ok (.istore 4, 2) := by decide +kernel
theorem dX9_leaks_34 : decode cX9_leaks 34 = .ok (.iconst 0, 1) := by decide +kernel
theorem dX9_leaks_35 : decode cX9_leaks 35 = .ok (.istore 5, 2) := by decide +kernel
theorem dX9_leaks_37 : decode cX9_leaks 37 = .ok (.iload 5, 2) := by decide +kernel
theorem dX9_leaks_39 : decode cX9_leaks 39 = .ok (.aload_n 0, 1) := by decide +kernel
theorem dX9_leaks_40 : decode cX9_leaks 40 = .ok (.getfield 153, 3) := by decide +kernel
theorem dX9_leaks_43 : decode cX9_leaks 43 = .ok (.if_icmp .ge 41, 3) := by decide +kernel
theorem dX9_leaks_46 : decode cX9_leaks 46 = .ok (.iload_n 2, 1) := by decide +kernel
theorem dX9_leaks_47 : decode cX9_leaks 47 = .ok (.iload 4, 2) := by decide +kernel
theorem dX9_leaks_49 : decode cX9_leaks 49 = .ok (.iload 5, 2) := by decide +kernel
theorem dX9_leaks_51 : decode cX9_leaks 51 = .ok (.invokestatic 165, 3) := by decide +kernel
theorem dX9_leaks_54 : decode cX9_leaks 54 = .ok (.ifCond .eq 21, 3) := by decide +kernel
theorem dX9_leaks_57 : decode cX9_leaks 57 = .ok (.iload 4, 2) := by decide +kernel
theorem dX9_leaks_59 : decode cX9_leaks 59 = .ok (.aload_n 0, 1) := by decide +kernel
theorem dX9_leaks_60 : decode cX9_leaks 60 = .ok (.iload 5, 2) := by decide +kernel
theorem dX9_leaks_62 : decode cX9_leaks 62 = .ok (.iconst 0, 1) := by decide +kernel
theorem dX9_leaks_63 : decode cX9_leaks 63 = .ok (.invokevirtual 185, 3) := by decide +kernel
theorem dX9_leaks_66 : decode cX9_leaks 66 = .ok (.ior, 1) := by decide +kernel
theorem dX9_leaks_67 : decode cX9_leaks 67 = .ok (.iload_n 1, 1) := by decide +kernel
theorem dX9_leaks_68 : decode cX9_leaks 68 = .ok (.if_icmp .ne 7, 3) := by decide +kernel
theorem dX9_leaks_71 : decode cX9_leaks 71 = .ok (.iconst 1, 1) := by decide +kernel
theorem dX9_leaks_72 : decode cX9_leaks 72 = .ok (.goto 4, 3) := by decide +kernel
theorem dX9_leaks_75 : decode cX9_leaks 75 = .ok (.iconst 0, 1) := by decide +kernel
theorem dX9_leaks_76 : decode cX9_leaks 76 = .ok (.iadd, 1) := by decide +kernel
theorem dX9_leaks_77 : decode cX9_leaks 77 = .ok (.istore_n 2, 1) := by decide +kernel
theorem dX9_leaks_78 : decode cX9_leaks 78 = .ok (.iinc 5 1, 3) := by decide +kernel
theorem dX9_leaks_81 : decode cX9_leaks 81 = .ok (.goto (-44), 3) := by decide +kernel
theorem dX9_leaks_84 : decode cX9_leaks 84 = .ok (.iinc 3 1, 3) := by decide +kernel
theorem dX9_leaks_87 : decode cX9_leaks 87 = .ok (.goto (-73), 3) := by decide +kernel
theorem dX9_leaks_90 : decode cX9_leaks 90 = .ok (.iload_n 2, 1) := by decide +kernel
theorem dX9_leaks_91 : decode cX9_leaks 91 = .ok (.ireturn, 1) := by decide +kernel
set_option maxRecDepth 20000 in
theorem ggX9_carried_X9_in : GoodIn wsX9_carried wsX9_in := goodIn_r _ [16] (by decide +kernel) (by decide +kernel)
set_option maxRecDepth 20000 in
theorem gX9_carried_X9_in : GoodIn wsX9_carried (va_wsS RX9 98 yX9_in wsX9_in) := goodIn_app (goodIn_of _ (by decide +kernel)) ggX9_carried_X9_in
theorem dX9_carried_0 : decode cX9_carried 0 = .ok (.iload_n 1, 1) := by decide +kernel
theorem dX9_carried_1 : decode cX9_carried 1 = .ok (.bipush 21, 2) := by decide +kernel
theorem dX9_carried_3 : decode cX9_carried 3 = .ok (.if_icmp .ge 153, 3) := by decide +kernel
theorem dX9_carried_6 : decode cX9_carried 6 = .ok (.iload_n 1, 1) := by decide +kernel
theorem dX9_carried_7 : decode cX9_carried 7 = .ok (.bipush 7, 2) := by decide +kernel
theorem dX9_carried_9 : decode cX9_carried 9 = .ok (.irem, 1) := by decide +kernel
theorem dX9_carried_10 : decode cX9_carried 10 = .ok (.istore 4, 2) := by decide +kernel
theorem dX9_carried_12 : decode cX9_carried 12 = .ok (.aload_n 0, 1) := by decide +kernel
theorem dX9_carried_13 : decode cX9_carried 13 = .ok (.getfield 25, 3) := by decide +kernel
theorem dX9_carried_16 : decode cX9_carried 16 = .ok (.iload 4, 2) := by decide +kernel
theorem dX9_carried_18 : decode cX9_carried 18 = .ok (.iload_n 3, 1) := by decide +kernel
theorem dX9_carried_19 : decode cX9_carried 19 = .ok (.ifCond .eq 13, 3) := by decide +kernel
theorem dX9_carried_22 : decode cX9_carried 22 = .ok (.iload_n 1, 1) := by decide +kernel
theorem dX9_carried_23 : decode cX9_carried 23 = .ok (.bipush 7, 2) := by decide +kernel
theorem dX9_carried_25 : decode cX9_carried 25 = .ok (.if_icmp .ge 7, 3) := by decide +kernel
theorem dX9_carried_28 : decode cX9_carried 28 = .ok (.iload_n 2, 1) := by decide +kernel
theorem dX9_carried_29 : decode cX9_carried 29 = .ok (.goto 10, 3) := by decide +kernel
theorem dX9_carried_32 : decode cX9_carried 32 = .ok (.aload_n 0, 1) := by decide +kernel
theorem dX9_carried_33 : decode cX9_carried 33 = .ok (.getfield 25, 3) := by decide +kernel
theorem dX9_carried_36 : decode cX9_carried 36 = .ok (.iload 4, 2) := by decide +kernel
theorem dX9_carried_38 : decode cX9_carried 38 = .ok (.iaload, 1) := by decide +kernel
theorem dX9_carried_39 : decode cX9_carried 39 = .ok (.iastore, 1) := by decide +kernel
theorem dX9_carried_40 : decode cX9_carried 40 = .ok (.aload_n 0, 1) := by decide +kernel
theorem dX9_carried_41 : decode cX9_carried 41 = .ok (.getfield 28, 3) := by decide +kernel
theorem dX9_carried_44 : decode cX9_carried 44 = .ok (.iload_n 1, 1) := by decide +kernel
theorem dX9_carried_45 : decode cX9_carried 45 = .ok (.bipush 6, 2) := by decide +kernel
theorem dX9_carried_47 : decode cX9_carried 47 = .ok (.irem, 1) := by decide +kernel
theorem dX9_carried_48 : decode cX9_carried 48 = .ok (.iload_n 3, 1) := by decide +kernel
theorem dX9_carried_49 : decode cX9_carried 49 = .ok (.ifCond .eq 21, 3) := by decide +kernel
theorem dX9_carried_52 : decode cX9_carried 52 = .ok (.iload_n 1, 1) := by decide +kernel
theorem dX9_carried_53 : decode cX9_carried 53 = .ok (.i2l, 1) := by decide +kernel
theorem dX9_carried_54 : decode cX9_carried 54 = .ok (.ldc2_w 255, 3) := by decide +kernel
theorem dX9_carried_57 : decode cX9_carried 57 = .ok (.ldc2_w 260, 3) := by decide +kernel
theorem dX9_carried_60 : decode cX9_carried 60 = .ok (.invokestatic 98, 3) := by decide +kernel
theorem dX9_carried_63 : decode cX9_carried 63 = .ok (.ifCond .eq 7, 3) := by decide +kernel
theorem dX9_carried_66 : decode cX9_carried 66 = .ok (.iload_n 2, 1) := by decide +kernel
theorem dX9_carried_67 : decode cX9_carried 67 = .ok (.goto 12, 3) := by decide +kernel
theorem dX9_carried_70 : decode cX9_carried 70 = .ok (.aload_n 0, 1) := by decide +kernel
theorem dX9_carried_71 : decode cX9_carried 71 = .ok (.getfield 28, 3) := by decide +kernel
theorem dX9_carried_74 : decode cX9_carried 74 = .ok (.iload_n 1, 1) := by decide +kernel
theorem dX9_carried_75 : decode cX9_carried 75 = .ok (.bipush 6, 2) := by decide +kernel
theorem dX9_carried_77 : decode cX9_carried 77 = .ok (.irem, 1) := by decide +kernel
theorem dX9_carried_78 : decode cX9_carried 78 = .ok (.iaload, 1) := by decide +kernel
theorem dX9_carried_79 : decode cX9_carried 79 = .ok (.iastore, 1) := by decide +kernel
theorem dX9_carried_80 : decode cX9_carried 80 = .ok (.aload_n 0, 1) := by decide +kernel
theorem dX9_carried_81 : decode cX9_carried 81 = .ok (.getfield 34, 3) := by decide +kernel
theorem dX9_carried_84 : decode cX9_carried 84 = .ok (.iload_n 1, 1) := by decide +kernel
theorem dX9_carried_85 : decode cX9_carried 85 = .ok (.bipush 8, 2) := by decide +kernel
theorem dX9_carried_87 : decode cX9_carried 87 = .ok (.irem, 1) := by decide +kernel
theorem dX9_carried_88 : decode cX9_carried 88 = .ok (.iload_n 3, 1) := by decide +kernel
theorem dX9_carried_89 : decode cX9_carried 89 = .ok (.ifCond .eq 13, 3) := by decide +kernel
theorem dX9_carried_92 : decode cX9_carried 92 = .ok (.iload_n 1, 1) := by decide +kernel
theorem dX9_carried_93 : decode cX9_carried 93 = .ok (.bipush 12, 2) := by decide +kernel
theorem dX9_carried_95 : decode cX9_carried 95 = .ok (.if_icmp .le 7, 3) := by decide +kernel
theorem dX9_carried_98 : decode cX9_carried 98 = .ok (.iload_n 2, 1) := by decide +kernel
theorem dX9_carried_99 : decode cX9_carried 99 = .ok (.goto 12, 3) := by decide +kernel
theorem dX9_carried_102 : decode cX9_carried 102 = .ok (.aload_n 0, 1) := by decide +kernel
theorem dX9_carried_103 : decode cX9_carried 103 = .ok (.getfield 34, 3) := by decide +kernel
theorem dX9_carried_106 : decode cX9_carried 106 = .ok (.iload_n 1, 1) := by decide +kernel
theorem dX9_carried_107 : decode cX9_carried 107 = .ok (.bipush 8, 2) := by decide +kernel
theorem dX9_carried_109 : decode cX9_carried 109 = .ok (.irem, 1) := by decide +kernel
theorem dX9_carried_110 : decode cX9_carried 110 = .ok (.iaload, 1) := by decide +kernel
theorem dX9_carried_111 : decode cX9_carried 111 = .ok (.iastore, 1) := by decide +kernel
theorem dX9_carried_112 : decode cX9_carried 112 = .ok (.iload_n 1, 1) := by decide +kernel
theorem dX9_carried_113 : decode cX9_carried 113 = .ok (.bipush 7, 2) := by decide +kernel
theorem dX9_carried_115 : decode cX9_carried 115 = .ok (.if_icmp .ge 13, 3) := by decide +kernel
theorem dX9_carried_118 : decode cX9_carried 118 = .ok (.aload_n 0, 1) := by decide +kernel
theorem dX9_carried_119 : decode cX9_carried 119 = .ok (.getfield 25, 3) := by decide +kernel
theorem dX9_carried_122 : decode cX9_carried 122 = .ok (.iload 4, 2) := by decide +kernel
theorem dX9_carried_124 : decode cX9_carried 124 = .ok (.iaload, 1) := by decide +kernel
theorem dX9_carried_125 : decode cX9_carried 125 = .ok (.goto 30, 3) := by decide +kernel
theorem dX9_carried_128 : decode cX9_carried 128 = .ok (.iload_n 1, 1) := by decide +kernel
theorem dX9_carried_129 : decode cX9_carried 129 = .ok (.bipush 13, 2) := by decide +kernel
theorem dX9_carried_131 : decode cX9_carried 131 = .ok (.if_icmp .ge 15, 3) := by decide +kernel
theorem dX9_carried_134 : decode cX9_carried 134 = .ok (.aload_n 0, 1) := by decide +kernel
theorem dX9_carried_135 : decode cX9_carried 135 = .ok (.getfield 28, 3) := by decide +kernel
theorem dX9_carried_138 : decode cX9_carried 138 = .ok (.iload_n 1, 1) := by decide +kernel
theorem dX9_carried_139 : decode cX9_carried 139 = .ok (.bipush 6, 2) := by decide +kernel
theorem dX9_carried_141 : decode cX9_carried 141 = .ok (.irem, 1) := by decide +kernel
theorem dX9_carried_142 : decode cX9_carried 142 = .ok (.iaload, 1) := by decide +kernel
theorem dX9_carried_143 : decode cX9_carried 143 = .ok (.goto 12, 3) := by decide +kernel
theorem dX9_carried_146 : decode cX9_carried 146 = .ok (.aload_n 0, 1) := by decide +kernel
theorem dX9_carried_147 : decode cX9_carried 147 = .ok (.getfield 34, 3) := by decide +kernel
theorem dX9_carried_150 : decode cX9_carried 150 = .ok (.iload_n 1, 1) := by decide +kernel
theorem dX9_carried_151 : decode cX9_carried 151 = .ok (.bipush 8, 2) := by decide +kernel
theorem dX9_carried_153 : decode cX9_carried 153 = .ok (.irem, 1) := by decide +kernel
theorem dX9_carried_154 : decode cX9_carried 154 = .ok (.iaload, 1) := by decide +kernel
theorem dX9_carried_155 : decode cX9_carried 155 = .ok (.ireturn, 1) := by decide +kernel
theorem dX9_carried_156 : decode cX9_carried 156 = .ok (.iload_n 1, 1) := by decide +kernel
theorem dX9_carried_157 : decode cX9_carried 157 = .ok (.bipush 45, 2) := by decide +kernel
theorem dX9_carried_159 : decode cX9_carried 159 = .ok (.if_icmp .ge 39, 3) := by decide +kernel
theorem dX9_carried_162 : decode cX9_carried 162 = .ok (.aload_n 0, 1) := by decide +kernel
theorem dX9_carried_163 : decode cX9_carried 163 = .ok (.getfield 31, 3) := by decide +kernel
theorem dX9_carried_166 : decode cX9_carried 166 = .ok (.iload_n 1, 1) := by decide +kernel
theorem dX9_carried_167 : decode cX9_carried 167 = .ok (.bipush 21, 2) := by decide +kernel
theorem dX9_carried_169 : decode cX9_carried 169 = .ok (.isub, 1) := by decide +kernel
theorem dX9_carried_170 : decode cX9_carried 170 = .ok (.iload_n 3, 1) := by decide +kernel
theorem dX9_carried_171 : decode cX9_carried 171 = .ok (.ifCond .eq 7, 3) := by decide +kernel
theorem dX9_carried_174 : decode cX9_carried 174 = .ok (.iload_n 2, 1) := by decide +kernel
theorem dX9_carried_175 : decode cX9_carried 175 = .ok (.goto 12, 3) := by decide +kernel
theorem dX9_carried_178 : decode cX9_carried 178 = .ok (.aload_n 0, 1) := by decide +kernel
theorem dX9_carried_179 : decode cX9_carried 179 = .ok (.getfield 31, 3) := by decide +kernel
theorem dX9_carried_182 : decode cX9_carried 182 = .ok (.iload_n 1, 1) := by decide +kernel
theorem dX9_carried_183 : decode cX9_carried 183 = .ok (.bipush 21, 2) := by decide +kernel
theorem dX9_carried_185 : decode cX9_carried 185 = .ok (.isub, 1) := by decide +kernel
theorem dX9_carried_186 : decode cX9_carried 186 = .ok (.iaload, 1) := by decide +kernel
theorem dX9_carried_187 : decode cX9_carried 187 = .ok (.iastore, 1) := by decide +kernel
theorem dX9_carried_188 : decode cX9_carried 188 = .ok (.aload_n 0, 1) := by decide +kernel
theorem dX9_carried_189 : decode cX9_carried 189 = .ok (.getfield 31, 3) := by decide +kernel
theorem dX9_carried_192 : decode cX9_carried 192 = .ok (.iload_n 1, 1) := by decide +kernel
theorem dX9_carried_193 : decode cX9_carried 193 = .ok (.bipush 21, 2) := by decide +kernel
theorem dX9_carried_195 : decode cX9_carried 195 = .ok (.isub, 1) := by decide +kernel
theorem dX9_carried_196 : decode cX9_carried 196 = .ok (.iaload, 1) := by decide +kernel
theorem dX9_carried_197 : decode cX9_carried 197 = .ok (.ireturn, 1) := by decide +kernel
theorem dX9_carried_198 : decode cX9_carried 198 = .ok (.iload_n 1, 1) := by decide +kernel
theorem dX9_carried_199 : decode cX9_carried 199 = .ok (.sipush 165, 3) := by decide +kernel
theorem dX9_carried_202 : decode cX9_carried 202 = .ok (.if_icmp .ge 143, 3) := by decide +kernel
theorem dX9_carried_205 : decode cX9_carried 205 = .ok (.iload_n 1, 1) := by decide +kernel
theorem dX9_carried_206 : decode cX9_carried 206 = .ok (.bipush 45, 2) := by decide +kernel
theorem dX9_carried_208 : decode cX9_carried 208 = .ok (.isub, 1) := by decide +kernel
theorem dX9_carried_209 : decode cX9_carried 209 = .ok (.bipush 40, 2) := by decide +kernel
theorem dX9_carried_211 : decode cX9_carried 211 = .ok (.irem, 1) := by decide +kernel
theorem dX9_carried_212 : decode cX9_carried 212 = .ok (.istore 4, 2) := by decide +kernel
theorem dX9_carried_214 : decode cX9_carried 214 = .ok (.iload_n 1, 1) := by decide +kernel
theorem dX9_carried_215 : decode cX9_carried 215 = .ok (.bipush 45, 2) := by decide +kernel
theorem dX9_carried_217 : decode cX9_carried 217 = .ok (.isub, 1) := by decide +kernel
theorem dX9_carried_218 : decode cX9_carried 218 = .ok (.bipush 40, 2) := by decide +kernel
theorem dX9_carried_220 : decode cX9_carried 220 = .ok (.idiv, 1) := by decide +kernel
theorem dX9_carried_221 : decode cX9_carried 221 = .ok (.istore 5, 2) := by decide +kernel
theorem dX9_carried_223 : decode cX9_carried 223 = .ok (.aload_n 0, 1) := by decide +kernel
theorem dX9_carried_224 : decode cX9_carried 224 = .ok (.getfield 37, 3) := by decide +kernel
theorem dX9_carried_227 : decode cX9_carried 227 = .ok (.iload 4, 2) := by decide +kernel
theorem dX9_carried_229 : decode cX9_carried 229 = .ok (.iload_n 3, 1) := by decide +kernel
theorem dX9_carried_230 : decode cX9_carried 230 = .ok (.ifCond .eq 12, 3) := by decide +kernel
theorem dX9_carried_233 : decode cX9_carried 233 = .ok (.iload 5, 2) := by decide +kernel
theorem dX9_carried_235 : decode cX9_carried 235 = .ok (.ifCond .ne 7, 3) := by decide +kernel
theorem dX9_carried_238 : decode cX9_carried 238 = .ok (.iload_n 2, 1) := by decide +kernel
theorem dX9_carried_239 : decode cX9_carried 239 = .ok (.goto 10, 3) := by decide +kernel
theorem dX9_carried_242 : decode cX9_carried 242 = .ok (.aload_n 0, 1) := by decide +kernel
theorem dX9_carried_243 : decode cX9_carried 243 = .ok (.getfield 37, 3) := by decide +kernel
theorem dX9_carried_246 : decode cX9_carried 246 = .ok (.iload 4, 2) := by decide +kernel
theorem dX9_carried_248 : decode cX9_carried 248 = .ok (.iaload, 1) := by decide +kernel
theorem dX9_carried_249 : decode cX9_carried 249 = .ok (.iastore, 1) := by decide +kernel
theorem dX9_carried_250 : decode cX9_carried 250 = .ok (.aload_n 0, 1) := by decide +kernel
theorem dX9_carried_251 : decode cX9_carried 251 = .ok (.getfield 40, 3) := by decide +kernel
theorem dX9_carried_254 : decode cX9_carried 254 = .ok (.iload 4, 2) := by decide +kernel
theorem dX9_carried_256 : decode cX9_carried 256 = .ok (.iload_n 3, 1) := by decide +kernel
theorem dX9_carried_257 : decode cX9_carried 257 = .ok (.ifCond .eq 13, 3) := by decide +kernel
theorem dX9_carried_260 : decode cX9_carried 260 = .ok (.iload 5, 2) := by decide +kernel
theorem dX9_carried_262 : decode cX9_carried 262 = .ok (.iconst 1, 1) := by decide +kernel
theorem dX9_carried_263 : decode cX9_carried 263 = .ok (.if_icmp .ne 7, 3) := by decide +kernel
theorem dX9_carried_266 : decode cX9_carried 266 = .ok (.iload_n 2, 1) := by decide +kernel
theorem dX9_carried_267 : decode cX9_carried 267 = .ok (.goto 10, 3) := by decide +kernel
theorem dX9_carried_270 : decode cX9_carried 270 = .ok (.aload_n 0, 1) := by decide +kernel
theorem dX9_carried_271 : decode cX9_carried 271 = .ok (.getfield 40, 3) := by decide +kernel
theorem dX9_carried_274 : decode cX9_carried 274 = .ok (.iload 4, 2) := by decide +kernel
theorem dX9_carried_276 : decode cX9_carried 276 = .ok (.iaload, 1) := by decide +kernel
theorem dX9_carried_277 : decode cX9_carried 277 = .ok (.iastore, 1) := by decide +kernel
theorem dX9_carried_278 : decode cX9_carried 278 = .ok (.aload_n 0, 1) := by decide +kernel
theorem dX9_carried_279 : decode cX9_carried 279 = .ok (.getfield 43, 3) := by decide +kernel
theorem dX9_carried_282 : decode cX9_carried 282 = .ok (.iload 4, 2) := by decide +kernel
theorem dX9_carried_284 : decode cX9_carried 284 = .ok (.iload_n 3, 1) := by decide +kernel
theorem dX9_carried_285 : decode cX9_carried 285 = .ok (.ifCond .eq 13, 3) := by decide +kernel
theorem dX9_carried_288 : decode cX9_carried 288 = .ok (.iload 5, 2) := by decide +kernel
theorem dX9_carried_290 : decode cX9_carried 290 = .ok (.iconst 2, 1) := by decide +kernel
theorem dX9_carried_291 : decode cX9_carried 291 = .ok (.if_icmp .ne 7, 3) := by decide +kernel
theorem dX9_carried_294 : decode cX9_carried 294 = .ok (.iload_n 2, 1) := by decide +kernel
theorem dX9_carried_295 : decode cX9_carried 295 = .ok (.goto 10, 3) := by decide +kernel
theorem dX9_carried_298 : decode cX9_carried 298 = .ok (.aload_n 0, 1) := by decide +kernel
theorem dX9_carried_299 : decode cX9_carried 299 = .ok (.getfield 43, 3) := by decide +kernel
theorem dX9_carried_302 : decode cX9_carried 302 = .ok (.iload 4, 2) := by decide +kernel
theorem dX9_carried_304 : decode cX9_carried 304 = .ok (.iaload, 1) := by decide +kernel
theorem dX9_carried_305 : decode cX9_carried 305 = .ok (.iastore, 1) := by decide +kernel
theorem dX9_carried_306 : decode cX9_carried 306 = .ok (.iload 5, 2) := by decide +kernel
theorem dX9_carried_308 : decode cX9_carried 308 = .ok (.ifCond .ne 13, 3) := by decide +kernel
theorem dX9_carried_311 : decode cX9_carried 311 = .ok (.aload_n 0, 1) := by decide +kernel
theorem dX9_carried_312 : decode cX9_carried 312 = .ok (.getfield 37, 3) := by decide +kernel
theorem dX9_carried_315 : decode cX9_carried 315 = .ok (.iload 4, 2) := by decide +kernel
theorem dX9_carried_317 : decode cX9_carried 317 = .ok (.iaload, 1) := by decide +kernel
theorem dX9_carried_318 : decode cX9_carried 318 = .ok (.goto 26, 3) := by decide +kernel
theorem dX9_carried_321 : decode cX9_carried 321 = .ok (.iload 5, 2) := by decide +kernel
theorem dX9_carried_323 : decode cX9_carried 323 = .ok (.iconst 1, 1) := by decide +kernel
theorem dX9_carried_324 : decode cX9_carried 324 = .ok (.if_icmp .ne 13, 3) := by decide +kernel
theorem dX9_carried_327 : decode cX9_carried 327 = .ok (.aload_n 0, 1) := by decide +kernel
theorem dX9_carried_328 : decode cX9_carried 328 = .ok (.getfield 40, 3) := by decide +kernel
theorem dX9_carried_331 : decode cX9_carried 331 = .ok (.iload 4, 2) := by decide +kernel
theorem dX9_carried_333 : decode cX9_carried 333 = .ok (.iaload, 1) := by decide +kernel
theorem dX9_carried_334 : decode cX9_carried 334 = .ok (.goto 10, 3) := by decide +kernel
theorem dX9_carried_337 : decode cX9_carried 337 = .ok (.aload_n 0, 1) := by decide +kernel
theorem dX9_carried_338 : decode cX9_carried 338 = .ok (.getfield 43, 3) := by decide +kernel
theorem dX9_carried_341 : decode cX9_carried 341 = .ok (.iload 4, 2) := by decide +kernel
theorem dX9_carried_343 : decode cX9_carried 343 = .ok (.iaload, 1) := by decide +kernel
theorem dX9_carried_344 : decode cX9_carried 344 = .ok (.ireturn, 1) := by decide +kernel
theorem dX9_carried_345 : decode cX9_carried 345 = .ok (.iload_n 1, 1) := by decide +kernel
theorem dX9_carried_346 : decode cX9_carried 346 = .ok (.sipush 485, 3) := by decide +kernel
theorem dX9_carried_349 : decode cX9_carried 349 = .ok (.if_icmp .ge 42, 3) := by decide +kernel
theorem dX9_carried_352 : decode cX9_carried 352 = .ok (.aload_n 0, 1) := by decide +kernel
theorem dX9_carried_353 : decode cX9_carried 353 = .ok (.getfield 46, 3) := by decide +kernel
theorem dX9_carried_356 : decode cX9_carried 356 = .ok (.iload_n 1, 1) := by decide +kernel
theorem dX9_carried_357 : decode cX9_carried 357 = .ok (.sipush 165, 3) := by decide +kernel
theorem dX9_carried_360 : decode cX9_carried 360 = .ok (.isub, 1) := by decide +kernel
theorem dX9_carried_361 : decode cX9_carried 361 = .ok (.iload_n 3, 1) := by decide +kernel
theorem dX9_carried_362 : decode cX9_carried 362 = .ok (.ifCond .eq 7, 3) := by decide +kernel
theorem dX9_carried_365 : decode cX9_carried 365 = .ok (.iload_n 2, 1) := by decide +kernel
theorem dX9_carried_366 : decode cX9_carried 366 = .ok (.goto 13, 3) := by decide +kernel
theorem dX9_carried_369 : decode cX9_carried 369 = .ok (.aload_n 0, 1) := by decide +kernel
theorem dX9_carried_370 : decode cX9_carried 370 = .ok (.getfield 46, 3) := by decide +kernel
theorem dX9_carried_373 : decode cX9_carried 373 = .ok (.iload_n 1, 1) := by decide +kernel
theorem dX9_carried_374 : decode cX9_carried 374 = .ok (.sipush 165, 3) := by decide +kernel
theorem dX9_carried_377 : decode cX9_carried 377 = .ok (.isub, 1) := by decide +kernel
theorem dX9_carried_378 : decode cX9_carried 378 = .ok (.iaload, 1) := by decide +kernel
theorem dX9_carried_379 : decode cX9_carried 379 = .ok (.iastore, 1) := by decide +kernel
theorem dX9_carried_380 : decode cX9_carried 380 = .ok (.aload_n 0, 1) := by decide +kernel
theorem dX9_carried_381 : decode cX9_carried 381 = .ok (.getfield 46, 3) := by decide +kernel
theorem dX9_carried_384 : decode cX9_carried 384 = .ok (.iload_n 1, 1) := by decide +kernel
theorem dX9_carried_385 : decode cX9_carried 385 = .ok (.sipush 165, 3) := by decide +kernel
theorem dX9_carried_388 : decode cX9_carried 388 = .ok (.isub, 1) := by decide +kernel
theorem dX9_carried_389 : decode cX9_carried 389 = .ok (.iaload, 1) := by decide +kernel
theorem dX9_carried_390 : decode cX9_carried 390 = .ok (.ireturn, 1) := by decide +kernel
theorem dX9_carried_391 : decode cX9_carried 391 = .ok (.aload_n 0, 1) := by decide +kernel
theorem dX9_carried_392 : decode cX9_carried 392 = .ok (.iload_n 3, 1) := by decide +kernel
theorem dX9_carried_393 : decode cX9_carried 393 = .ok (.ifCond .eq 14, 3) := by decide +kernel
theorem dX9_carried_396 : decode cX9_carried 396 = .ok (.iload_n 1, 1) := by decide +kernel
theorem dX9_carried_397 : decode cX9_carried 397 = .ok (.sipush 485, 3) := by decide +kernel
theorem dX9_carried_400 : decode cX9_carried 400 = .ok (.if_icmp .ne 7, 3) := by decide +kernel
theorem dX9_carried_403 : decode cX9_carried 403 = .ok (.iload_n 2, 1) := by decide +kernel
theorem dX9_carried_404 : decode cX9_carried 404 = .ok (.goto 7, 3) := by decide +kernel
theorem dX9_carried_407 : decode cX9_carried 407 = .ok (.aload_n 0, 1) := by decide +kernel
theorem dX9_carried_408 : decode cX9_carried 408 = .ok (.getfield 156, 3) := by decide +kernel
theorem dX9_carried_411 : decode cX9_carried 411 = .ok (.putfield 156, 3) := by decide +kernel
theorem dX9_carried_414 : decode cX9_carried 414 = .ok (.aload_n 0, 1) := by decide +kernel
theorem dX9_carried_415 : decode cX9_carried 415 = .ok (.iload_n 3, 1) := by decide +kernel
theorem dX9_carried_416 : decode cX9_carried 416 = .ok (.ifCond .eq 14, 3) := by decide +kernel
theorem dX9_carried_419 : decode cX9_carried 419 = .ok (.iload_n 1, 1) := by decide +kernel
theorem dX9_carried_420 : decode cX9_carried 420 = .ok (.sipush 486, 3) := by decide +kernel
theorem dX9_carried_423 : decode cX9_carried 423 = .ok (.if_icmp .ne 7, 3) := by decide +kernel
theorem dX9_carried_426 : decode cX9_carried 426 = .ok (.iload_n 2, 1) := by decide +kernel
theorem dX9_carried_427 : decode cX9_carried 427 = .ok (.goto 7, 3) := by decide +kernel
theorem dX9_carried_430 : decode cX9_carried 430 = .ok (.aload_n 0, 1) := by decide +kernel
theorem dX9_carried_431 : decode cX9_carried 431 = .ok (.getfield 159, 3) := by decide +kernel
theorem dX9_carried_434 : decode cX9_carried 434 = .ok (.putfield 159, 3) := by decide +kernel
theorem dX9_carried_437 : decode cX9_carried 437 = .ok (.iload_n 1, 1) := by decide +kernel
theorem dX9_carried_438 : decode cX9_carried 438 = .ok (.sipush 485, 3) := by decide +kernel
theorem dX9_carried_441 : decode cX9_carried 441 = .ok (.if_icmp .ne 10, 3) := by decide +kernel
theorem dX9_carried_444 : decode cX9_carried 444 = .ok (.aload_n 0, 1) := by decide +kernel
theorem dX9_carried_445 : decode cX9_carried 445 = .ok (.getfield 156, 3) := by decide +kernel
theorem dX9_carried_448 : decode cX9_carried 448 = .ok (.goto 18, 3) := by decide +kernel
theorem dX9_carried_451 : decode cX9_carried 451 = .ok (.iload_n 1, 1) := by decide +kernel
theorem dX9_carried_452 : decode cX9_carried 452 = .ok (.sipush 486, 3) := by decide +kernel
theorem dX9_carried_455 : decode cX9_carried 455 = .ok (.if_icmp .ne 10, 3) := by decide +kernel
theorem dX9_carried_458 : decode cX9_carried 458 = .ok (.aload_n 0, 1) := by decide +kernel
theorem dX9_carried_459 : decode cX9_carried 459 = .ok (.getfield 159, 3) := by decide +kernel
theorem dX9_carried_462 : decode cX9_carried 462 = .ok (.goto 4, 3) := by decide +kernel
theorem dX9_carried_465 : decode cX9_carried 465 = .ok (.iconst 0, 1) := by decide +kernel
theorem dX9_carried_466 : decode cX9_carried 466 = .ok (.ireturn, 1) := by decide +kernel
set_option maxRecDepth 20000 in
theorem ggX9_keep_X9_in : GoodIn wsX9_keep wsX9_in := goodIn_r _ [9] (by decide +kernel) (by decide +kernel)
set_option maxRecDepth 20000 in
theorem gX9_keep_X9_in : GoodIn wsX9_keep (va_wsS RX9 98 yX9_in wsX9_in) := goodIn_app (goodIn_of _ (by decide +kernel)) ggX9_keep_X9_in
set_option maxRecDepth 20000 in
theorem ggX9_keep_X9_carried : GoodIn wsX9_keep wsX9_carried := goodIn_r _ [13, 14, 15, 16, 17, 18, 19, 20, 21, 22, 23, 24, 5, 6, 7, 8, 9, 25, 26, 27, 28, 29, 30, 31, 32, 33, 34, 35, 36, 37, 38, 39, 40, 41, 42, 43, 44, 45, 46, 47, 48, 49, 50, 51, 52, 53, 54, 55, 56, 57, 58, 59, 60] (by decide +kernel) (by decide +kernel)
set_option maxRecDepth 20000 in
theorem gX9_keep_X9_carried : GoodIn wsX9_keep (wsV RX9 262 RX9 yX9_carried wsX9_carried) := goodIn_app (goodIn_of _ (by decide +kernel)) ggX9_keep_X9_carried
theorem dX9_keep_0 : decode cX9_keep 0 = .ok (.iload_n 1, 1) := by decide +kernel
theorem dX9_keep_1 : decode cX9_keep 1 = .ok (.i2l, 1) := by decide +kernel
theorem dX9_keep_2 : decode cX9_keep 2 = .ok (.lconst 0, 1) := by decide +kernel
theorem dX9_keep_3 : decode cX9_keep 3 = .ok (.ldc2_w 219, 3) := by decide +kernel
theorem dX9_keep_6 : decode cX9_keep 6 = .ok (.invokestatic 98, 3) := by decide +kernel
theorem dX9_keep_9 : decode cX9_keep 9 = .ok (.ifCond .ne 5, 3) := by decide +kernel
theorem dX9_keep_12 : decode cX9_keep 12 = .ok (.iconst (-1), 1) := by decide +kernel
theorem dX9_keep_13 : decode cX9_keep 13 = .ok (.ireturn, 1) := by decide +kernel
theorem dX9_keep_14 : decode cX9_keep 14 = .ok (.aload_n 0, 1) := by decide +kernel
theorem dX9_keep_15 : decode cX9_keep 15 = .ok (.getfield 153, 3) := by decide +kernel
theorem dX9_keep_18 : decode cX9_keep 18 = .ok (.ifCond .ne 6, 3) := by decide +kernel
theorem dX9_keep_21 : decode cX9_keep 21 = .ok (.bipush (-4), 2) := by decide +kernel
theorem dX9_keep_23 : decode cX9_keep 23 = .ok (.ireturn, 1) := by decide +kernel
theorem dX9_keep_24 : decode cX9_keep 24 = .ok (.iconst 0, 1) := by decide +kernel
theorem dX9_keep_25 : decode cX9_keep 25 = .ok (.istore_n 2, 1) := by decide +kernel
theorem dX9_keep_26 : decode cX9_keep 26 = .ok (.iload_n 2, 1) := by decide +kernel
theorem dX9_keep_27 : decode cX9_keep 27 = .ok (.sipush 488, 3) := by decide +kernel
theorem dX9_keep_30 : decode cX9_keep 30 = .ok (.if_icmp .ge 28, 3) := by decide +kernel
theorem dX9_keep_33 : decode cX9_keep 33 = .ok (.aload_n 0, 1) := by decide +kernel
theorem dX9_keep_34 : decode cX9_keep 34 = .ok (.getfield 86, 3) := by decide +kernel
theorem dX9_keep_37 : decode cX9_keep 37 = .ok (.sipush 488, 3) := by decide +kernel
theorem dX9_keep_40 : decode cX9_keep 40 = .ok (.iload_n 1, 1) := by decide +kernel
theorem dX9_keep_41 : decode cX9_keep 41 = .ok (.imul, 1) := by decide +kernel
theorem dX9_keep_42 : decode cX9_keep 42 = .ok (.iload_n 2, 1) := by decide +kernel
theorem dX9_keep_43 : decode cX9_keep 43 = .ok (.iadd, 1) := by decide +kernel
theorem dX9_keep_44 : decode cX9_keep 44 = .ok (.aload_n 0, 1) := by decide +kernel
theorem dX9_keep_45 : decode cX9_keep 45 = .ok (.iload_n 2, 1) := by decide +kernel
theorem dX9_keep_46 : decode cX9_keep 46 = .ok (.iconst 0, 1) := by decide +kernel
theorem dX9_keep_47 : decode cX9_keep 47 = .ok (.iconst 0, 1) := by decide +kernel
theorem dX9_keep_48 : decode cX9_keep 48 = .ok (.invokevirtual 262, 3) := by decide +kernel
theorem dX9_keep_51 : decode cX9_keep 51 = .ok (.iastore, 1) := by decide +kernel
theorem dX9_keep_52 : decode cX9_keep 52 = .ok (.iinc 2 1, 3) := by decide +kernel
theorem dX9_keep_55 : decode cX9_keep 55 = .ok (.goto (-29), 3) := by decide +kernel
theorem dX9_keep_58 : decode cX9_keep 58 = .ok (.aload_n 0, 1) := by decide +kernel
theorem dX9_keep_59 : decode cX9_keep 59 = .ok (.getfield 83, 3) := by decide +kernel
theorem dX9_keep_62 : decode cX9_keep 62 = .ok (.iload_n 1, 1) := by decide +kernel
theorem dX9_keep_63 : decode cX9_keep 63 = .ok (.iconst 1, 1) := by decide +kernel
theorem dX9_keep_64 : decode cX9_keep 64 = .ok (.bastore, 1) := by decide +kernel
theorem dX9_keep_65 : decode cX9_keep 65 = .ok (.aload_n 0, 1) := by decide +kernel
theorem dX9_keep_66 : decode cX9_keep 66 = .ok (.getfield 159, 3) := by decide +kernel
theorem dX9_keep_69 : decode cX9_keep 69 = .ok (.ireturn, 1) := by decide +kernel
set_option maxRecDepth 20000 in
theorem ggX9_on_X9_in : GoodIn wsX9_on wsX9_in := goodIn_r _ [8] (by decide +kernel) (by decide +kernel)
set_option maxRecDepth 20000 in
theorem gX9_on_X9_in : GoodIn wsX9_on (va_wsS RX9 98 yX9_in wsX9_in) := goodIn_app (goodIn_of _ (by decide +kernel)) ggX9_on_X9_in
set_option maxRecDepth 20000 in
theorem ggX9_on_X9_find : GoodIn wsX9_on wsX9_find := goodIn_r _ [12, 13, 14, 30, 31, 32, 33, 34, 35, 36, 37, 38, 39, 40, 41, 42, 43, 44, 45, 46, 47, 48, 49, 50, 51, 52, 53, 54, 55, 56, 57, 58, 59, 60, 61, 62, 63, 64, 65] (by decide +kernel) (by decide +kernel)
set_option maxRecDepth 20000 in
theorem gX9_on_X9_find : GoodIn wsX9_on (wsV RX9 108 RX9 yX9_find wsX9_find) := goodIn_app (goodIn_of _ (by decide +kernel)) ggX9_on_X9_find
set_option maxRecDepth 20000 in
theorem ggX9_on_X9_carried : GoodIn wsX9_on wsX9_carried := goodIn_r _ [18, 19, 20, 21, 22, 23, 24, 25, 26, 27, 28, 29, 4, 5, 6, 7, 8, 30, 31, 32, 33, 34, 35, 36, 37, 38, 39, 40, 41, 42, 43, 44, 45, 46, 47, 48, 49, 50, 51, 52, 53, 54, 55, 56, 57, 58, 59, 60, 61, 62, 63, 64, 65] (by decide +kernel) (by decide +kernel)
set_option maxRecDepth 20000 in
theorem gX9_on_X9_carried : GoodIn wsX9_on (wsV RX9 262 RX9 yX9_carried wsX9_carried) := goodIn_app (goodIn_of _ (by decide +kernel)) ggX9_on_X9_carried
theorem dX9_on_0 : decode cX9_on 0 = .ok (.iload_n 1, 1) := by decide +kernel
theorem dX9_on_1 : decode cX9_on 1 = .ok (.i2l, 1) := by decide +kernel
theorem dX9_on_2 : decode cX9_on 2 = .ok (.lconst 0, 1) := by decide +kernel
theorem dX9_on_3 : decode cX9_on 3 = .ok (.ldc2_w 219, 3) := by decide +kernel
theorem dX9_on_6 : decode cX9_on 6 = .ok (.invokestatic 98, 3) := by decide +kernel
theorem dX9_on_9 : decode cX9_on 9 = .ok (.ifCond .ne 5, 3) := by decide +kernel
theorem dX9_on_12 : decode cX9_on 12 = .ok (.iconst (-1), 1) := by decide +kernel
theorem dX9_on_13 : decode cX9_on 13 = .ok (.ireturn, 1) := by decide +kernel
theorem dX9_on_14 : decode cX9_on 14 = .ok (.aload_n 0, 1) := by decide +kernel
theorem dX9_on_15 : decode cX9_on 15 = .ok (.getfield 83, 3) := by decide +kernel
theorem dX9_on_18 : decode cX9_on 18 = .ok (.iload_n 1, 1) := by decide +kernel
theorem dX9_on_19 : decode cX9_on 19 = .ok (.baload, 1) := by decide +kernel
theorem dX9_on_20 : decode cX9_on 20 = .ok (.ifCond .ne 9, 3) := by decide +kernel
theorem dX9_on_23 : decode cX9_on 23 = .ok (.aload_n 0, 1) := by decide +kernel
theorem dX9_on_24 : decode cX9_on 24 = .ok (.iconst 1, 1) := by decide +kernel
theorem dX9_on_25 : decode cX9_on 25 = .ok (.invokevirtual 108, 3) := by decide +kernel
theorem dX9_on_28 : decode cX9_on 28 = .ok (.ireturn, 1) := by decide +kernel
theorem dX9_on_29 : decode cX9_on 29 = .ok (.iconst 0, 1) := by decide +kernel
theorem dX9_on_30 : decode cX9_on 30 = .ok (.istore_n 2, 1) := by decide +kernel
theorem dX9_on_31 : decode cX9_on 31 = .ok (.iload_n 2, 1) := by decide +kernel
theorem dX9_on_32 : decode cX9_on 32 = .ok (.sipush 488, 3) := by decide +kernel
theorem dX9_on_35 : decode cX9_on 35 = .ok (.if_icmp .ge 28, 3) := by decide +kernel
theorem dX9_on_38 : decode cX9_on 38 = .ok (.aload_n 0, 1) := by decide +kernel
theorem dX9_on_39 : decode cX9_on 39 = .ok (.iload_n 2, 1) := by decide +kernel
theorem dX9_on_40 : decode cX9_on 40 = .ok (.aload_n 0, 1) := by decide +kernel
theorem dX9_on_41 : decode cX9_on 41 = .ok (.getfield 86, 3) := by decide +kernel
theorem dX9_on_44 : decode cX9_on 44 = .ok (.sipush 488, 3) := by decide +kernel
theorem dX9_on_47 : decode cX9_on 47 = .ok (.iload_n 1, 1) := by decide +kernel
theorem dX9_on_48 : decode cX9_on 48 = .ok (.imul, 1) := by decide +kernel
theorem dX9_on_49 : decode cX9_on 49 = .ok (.iload_n 2, 1) := by decide +kernel
theorem dX9_on_50 : decode cX9_on 50 = .ok (.iadd, 1) := by decide +kernel
theorem dX9_on_51 : decode cX9_on 51 = .ok (.iaload, 1) := by decide +kernel
theorem dX9_on_52 : decode cX9_on 52 = .ok (.iconst 1, 1) := by decide +kernel
theorem dX9_on_53 : decode cX9_on 53 = .ok (.invokevirtual 262, 3) := by decide +kernel
theorem dX9_on_56 : decode cX9_on 56 = .ok (.pop, 1) := by decide +kernel
theorem dX9_on_57 : decode cX9_on 57 = .ok (.iinc 2 1, 3) := by decide +kernel
theorem dX9_on_60 : decode cX9_on 60 = .ok (.goto (-29), 3) := by decide +kernel
theorem dX9_on_63 : decode cX9_on 63 = .ok (.aload_n 0, 1) := by decide +kernel
theorem dX9_on_64 : decode cX9_on 64 = .ok (.getfield 159, 3) := by decide +kernel
theorem dX9_on_67 : decode cX9_on 67 = .ok (.ireturn, 1) := by decide +kernel
set_option maxRecDepth 20000 in
theorem ggX9_nights_X9_in : GoodIn wsX9_nights wsX9_in := goodIn_r _ [9] (by decide +kernel) (by decide +kernel)
set_option maxRecDepth 20000 in
theorem gX9_nights_X9_in : GoodIn wsX9_nights (va_wsS RX9 98 yX9_in wsX9_in) := goodIn_app (goodIn_of _ (by decide +kernel)) ggX9_nights_X9_in
set_option maxRecDepth 20000 in
theorem ggX9_nights_X9_lacksTalk : GoodIn wsX9_nights wsX9_lacksTalk := goodIn_r _ [13, 14, 15, 16, 17, 8, 18, 19, 20, 62, 63, 64, 65, 66, 67, 68, 69, 70, 71, 72, 73, 74, 75, 76, 77, 78, 79, 80, 81, 82, 83, 84, 85, 86, 87, 88, 89, 90, 91, 92, 93, 94, 95, 96, 97] (by decide +kernel) (by decide +kernel)
set_option maxRecDepth 20000 in
theorem gX9_nights_X9_lacksTalk : GoodIn wsX9_nights (wsV RX9 221 RX9 yX9_lacksTalk wsX9_lacksTalk) := goodIn_app (goodIn_of _ (by decide +kernel)) ggX9_nights_X9_lacksTalk
set_option maxRecDepth 20000 in
theorem ggX9_nights_X9_isSafe : GoodIn wsX9_nights wsX9_isSafe := goodIn_r _ [24, 25, 26, 27, 28, 8, 29, 5, 30, 31, 32, 33, 34, 35, 36, 37, 38, 39, 40, 41, 42, 43, 44, 45, 46, 47, 48, 49, 50, 51, 52, 53, 54, 55, 56, 62, 63, 64, 65, 66, 67, 68, 69, 70, 71, 72, 73, 74, 75, 76, 77, 78, 79, 80, 81, 82, 83, 84, 85, 86, 87, 88, 89, 90, 91, 92, 93, 94, 95, 96, 97] (by decide +kernel) (by decide +kernel)
set_option maxRecDepth 20000 in
theorem gX9_nights_X9_isSafe : GoodIn wsX9_nights (wsV RX9 224 RX9 yX9_isSafe wsX9_isSafe) := goodIn_app (goodIn_of _ (by decide +kernel)) ggX9_nights_X9_isSafe
set_option maxRecDepth 20000 in
theorem ggX9_nights_X9_say : GoodIn wsX9_nights wsX9_say := goodIn_r _ [60, 61, 62, 63, 64, 65, 66, 67, 68, 69, 70, 71, 72, 73, 74, 75, 76, 77, 78, 79, 80, 81, 82, 83, 84, 85, 86, 87, 88, 89, 90, 91, 92, 93, 94, 95, 96, 97] (by decide +kernel) (by decide +kernel)
set_option maxRecDepth 20000 in
theorem gX9_nights_X9_say : GoodIn wsX9_nights (wsV RX9 116 RX9 yX9_say wsX9_say) := goodIn_app (goodIn_of _ (by decide +kernel)) ggX9_nights_X9_say
theorem dX9_nights_0 : decode cX9_nights 0 = .ok (.iload_n 1, 1) := by decide +kernel
theorem dX9_nights_1 : decode cX9_nights 1 = .ok (.ifCond .lt 27, 3) := by decide +kernel
theorem dX9_nights_4 : decode cX9_nights 4 = .ok (.iload_n 2, 1) := by decide +kernel
theorem dX9_nights_5 : decode cX9_nights 5 = .ok (.i2l, 1) := by decide +kernel
theorem dX9_nights_6 : decode cX9_nights 6 = .ok (.lconst 1, 1) := by decide +kernel
theorem dX9_nights_7 : decode cX9_nights 7 = .ok (.ldc2_w 266, 3) := by decide +kernel
theorem dX9_nights_10 : decode cX9_nights 10 = .ok (.invokestatic 98, 3) := by decide +kernel
theorem dX9_nights_13 : decode cX9_nights 13 = .ok (.ifCond .eq 15, 3) := by decide +kernel
theorem dX9_nights_16 : decode cX9_nights 16 = .ok (.iload_n 3, 1) := by decide +kernel
theorem dX9_nights_17 : decode cX9_nights 17 = .ok (.i2l, 1) := by decide +kernel
theorem dX9_nights_18 : decode cX9_nights 18 = .ok (.lconst 1, 1) := by decide +kernel
theorem dX9_nights_19 : decode cX9_nights 19 = .ok (.ldc2_w 268, 3) := by decide +kernel
theorem dX9_nights_22 : decode cX9_nights 22 = .ok (.invokestatic 98, 3) := by decide +kernel
theorem dX9_nights_25 : decode cX9_nights 25 = .ok (.ifCond .ne 5, 3) := by decide +kernel
theorem dX9_nights_28 : decode cX9_nights 28 = .ok (.iconst (-1), 1) := by decide +kernel
theorem dX9_nights_29 : decode cX9_nights 29 = .ok (.ireturn, 1) := by decide +kernel
theorem dX9_nights_30 : decode cX9_nights 30 = .ok (.aload_n 0, 1) := by decide +kernel
theorem dX9_nights_31 : decode cX9_nights 31 = .ok (.iload_n 1, 1) := by decide +kernel
theorem dX9_nights_32 : decode cX9_nights 32 = .ok (.invokevirtual 221, 3) := by decide +kernel
theorem dX9_nights_35 : decode cX9_nights 35 = .ok (.istore 4, 2) := by decide +kernel
theorem dX9_nights_37 : decode cX9_nights 37 = .ok (.iload 4, 2) := by decide +kernel
theorem dX9_nights_39 : decode cX9_nights 39 = .ok (.ifCond .ge 6, 3) := by decide +kernel
theorem dX9_nights_42 : decode cX9_nights 42 = .ok (.iload 4, 2) := by decide +kernel
theorem dX9_nights_44 : decode cX9_nights 44 = .ok (.ireturn, 1) := by decide +kernel
theorem dX9_nights_45 : decode cX9_nights 45 = .ok (.iload_n 3, 1) := by decide +kernel
theorem dX9_nights_46 : decode cX9_nights 46 = .ok (.i2l, 1) := by decide +kernel
theorem dX9_nights_47 : decode cX9_nights 47 = .ok (.lstore 5, 2) := by decide +kernel
theorem dX9_nights_49 : decode cX9_nights 49 = .ok (.iconst 0, 1) := by decide +kernel
theorem dX9_nights_50 : decode cX9_nights 50 = .ok (.istore 7, 2) := by decide +kernel
theorem dX9_nights_52 : decode cX9_nights 52 = .ok (.bipush (-9), 2) := by decide +kernel
theorem dX9_nights_54 : decode cX9_nights 54 = .ok (.istore 8, 2) := by decide +kernel
theorem dX9_nights_56 : decode cX9_nights 56 = .ok (.iconst 0, 1) := by decide +kernel
theorem dX9_nights_57 : decode cX9_nights 57 = .ok (.istore 9, 2) := by decide +kernel
theorem dX9_nights_59 : decode cX9_nights 59 = .ok (.iload 9, 2) := by decide +kernel
theorem dX9_nights_61 : decode cX9_nights 61 = .ok (.iload_n 2, 1) := by decide +kernel
theorem dX9_nights_62 : decode cX9_nights 62 = .ok (.if_icmp .ge 72, 3) := by decide +kernel
theorem dX9_nights_65 : decode cX9_nights 65 = .ok (.lload 5, 2) := by decide +kernel
theorem dX9_nights_67 : decode cX9_nights 67 = .ok (.ldc2_w 270, 3) := by decide +kernel
theorem dX9_nights_70 : decode cX9_nights 70 = .ok (.lmul, 1) := by decide +kernel
theorem dX9_nights_71 : decode cX9_nights 71 = .ok (.ldc2_w 272, 3) := by decide +kernel
theorem dX9_nights_74 : decode cX9_nights 74 = .ok (.lrem, 1) := by decide +kernel
theorem dX9_nights_75 : decode cX9_nights 75 = .ok (.lstore 5, 2) := by decide +kernel
theorem dX9_nights_77 : decode cX9_nights 77 = .ok (.lload 5, 2) := by decide +kernel
theorem dX9_nights_79 : decode cX9_nights 79 = .ok (.aload_n 0, 1) := by decide +kernel
theorem dX9_nights_80 : decode cX9_nights 80 = .ok (.getfield 153, 3) := by decide +kernel
theorem dX9_nights_83 : decode cX9_nights 83 = .ok (.i2l, 1) := by decide +kernel
theorem dX9_nights_84 : decode cX9_nights 84 = .ok (.lrem, 1) := by decide +kernel
theorem dX9_nights_85 : decode cX9_nights 85 = .ok (.l2i, 1) := by decide +kernel
theorem dX9_nights_86 : decode cX9_nights 86 = .ok (.istore 10, 2) := by decide +kernel
theorem dX9_nights_88 : decode cX9_nights 88 = .ok (.aload_n 0, 1) := by decide +kernel
theorem dX9_nights_89 : decode cX9_nights 89 = .ok (.iload_n 1, 1) := by decide +kernel
theorem dX9_nights_90 : decode cX9_nights 90 = .ok (.iconst 1, 1) := by decide +kernel
theorem dX9_nights_91 : decode cX9_nights 91 = .ok (.iload 10, 2) := by decide +kernel
theorem dX9_nights_93 : decode cX9_nights 93 = .ok (.ishl, 1) := by decide +kernel
theorem dX9_nights_94 : decode cX9_nights 94 = .ok (.invokevirtual 224, 3) := by decide +kernel
theorem dX9_nights_97 : decode cX9_nights 97 = .ok (.istore 11, 2) := by decide +kernel
theorem dX9_nights_99 : decode cX9_nights 99 = .ok (.iload 7, 2) := by decide +kernel
theorem dX9_nights_101 : decode cX9_nights 101 = .ok (.iload 11, 2) := by decide +kernel
theorem dX9_nights_103 : decode cX9_nights 103 = .ok (.ifCond .eq 7, 3) := by decide +kernel
theorem dX9_nights_106 : decode cX9_nights 106 = .ok (.iconst 1, 1) := by decide +kernel
theorem dX9_nights_107 : decode cX9_nights 107 = .ok (.goto 4, 3) := by decide +kernel
theorem dX9_nights_110 : decode cX9_nights 110 = .ok (.iconst 0, 1) := by decide +kernel
theorem dX9_nights_111 : decode cX9_nights 111 = .ok (.iadd, 1) := by decide +kernel
theorem dX9_nights_112 : decode cX9_nights 112 = .ok (.istore 7, 2) := by decide +kernel
theorem dX9_nights_114 : decode cX9_nights 114 = .ok (.iload 11, 2) := by decide +kernel
theorem dX9_nights_116 : decode cX9_nights 116 = .ok (.ifCond .eq 8, 3) := by decide +kernel
theorem dX9_nights_119 : decode cX9_nights 119 = .ok (.iload 10, 2) := by decide +kernel
theorem dX9_nights_121 : decode cX9_nights 121 = .ok (.goto 5, 3) := by decide +kernel
theorem dX9_nights_124 : decode cX9_nights 124 = .ok (.iload 8, 2) := by decide +kernel
theorem dX9_nights_126 : decode cX9_nights 126 = .ok (.istore 8, 2) := by decide +kernel
theorem dX9_nights_128 : decode cX9_nights 128 = .ok (.iinc 9 1, 3) := by decide +kernel
theorem dX9_nights_131 : decode cX9_nights 131 = .ok (.goto (-72), 3) := by decide +kernel
theorem dX9_nights_134 : decode cX9_nights 134 = .ok (.aload_n 0, 1) := by decide +kernel
theorem dX9_nights_135 : decode cX9_nights 135 = .ok (.iload 7, 2) := by decide +kernel
theorem dX9_nights_137 : decode cX9_nights 137 = .ok (.iload 8, 2) := by decide +kernel
theorem dX9_nights_139 : decode cX9_nights 139 = .ok (.invokevirtual 116, 3) := by decide +kernel
theorem dX9_nights_142 : decode cX9_nights 142 = .ok (.ireturn, 1) := by decide +kernel
theorem dX9_asked_0 : decode cX9_asked 0 = .ok (.aload_n 0, 1) := by decide +kernel
theorem dX9_asked_1 : decode cX9_asked 1 = .ok (.getfield 93, 3) := by decide +kernel
theorem dX9_asked_4 : decode cX9_asked 4 = .ok (.ireturn, 1) := by decide +kernel
theorem dX9_common_0 : decode cX9_common 0 = .ok (.lload_n 0, 1) := by decide +kernel
theorem dX9_common_1 : decode cX9_common 1 = .ok (.lstore 4, 2) := by decide +kernel
theorem dX9_common_3 : decode cX9_common 3 = .ok (.lload_n 2, 1) := by decide +kernel
theorem dX9_common_4 : decode cX9_common 4 = .ok (.lstore 6, 2) := by decide +kernel
theorem dX9_common_6 : decode cX9_common 6 = .ok (.lload 6, 2) := by decide +kernel
theorem dX9_common_8 : decode cX9_common 8 = .ok (.lconst 0, 1) := by decide +kernel
theorem dX9_common_9 : decode cX9_common 9 = .ok (.lcmp, 1) := by decide +kernel
theorem dX9_common_10 : decode cX9_common 10 = .ok (.ifCond .eq 21, 3) := by decide +kernel
theorem dX9_common_13 : decode cX9_common 13 = .ok (.lload 4, 2) := by decide +kernel
theorem dX9_common_15 : decode cX9_common 15 = .ok (.lload 6, 2) := by decide +kernel
theorem dX9_common_17 : decode cX9_common 17 = .ok (.lrem, 1) := by decide +kernel
theorem dX9_common_18 : decode cX9_common 18 = .ok (.lstore 8, 2) := by decide +kernel
theorem dX9_common_20 : decode cX9_common 20 = .ok (.lload 6, 2) := by decide +kernel
theorem dX9_common_22 : decode cX9_common 22 = .ok (.lstore 4, 2) := by decide +kernel
theorem dX9_common_24 : decode cX9_common 24 = .ok (.lload 8, 2) := by decide +kernel
theorem dX9_common_26 : decode cX9_common 26 = .ok (.lstore 6, 2) := by decide +kernel
theorem dX9_common_28 : decode cX9_common 28 = .ok (.goto (-22), 3) := by decide +kernel
theorem dX9_common_31 : decode cX9_common 31 = .ok (.lload 4, 2) := by decide +kernel
theorem dX9_common_33 : decode cX9_common 33 = .ok (.lreturn, 1) := by decide +kernel
set_option maxRecDepth 20000 in
theorem ggX9_part_X9_heardBy : GoodIn wsX9_part wsX9_heardBy := goodIn_r _ [6, 1, 7, 8, 9, 10, 5, 11, 12, 13, 14, 15, 16, 17, 18, 19, 20, 21, 22, 23, 24, 25, 26, 27, 28, 29, 30, 31, 32, 33, 40, 41, 42, 43, 44, 45, 46, 47, 48, 49, 50, 51, 52, 53, 54, 55, 56, 57, 58, 59, 60, 61, 62, 63, 64, 65, 66, 67, 68, 69, 70, 71, 72, 73, 74, 75] (by decide +kernel) (by decide +kernel)
set_option maxRecDepth 20000 in
theorem gX9_part_X9_heardBy : GoodIn wsX9_part (wsV RX9 185 RX9 yX9_heardBy wsX9_heardBy) := goodIn_app (goodIn_of _ (by decide +kernel)) ggX9_part_X9_heardBy
set_option maxRecDepth 20000 in
theorem ggX9_part_X9_ones : GoodIn wsX9_part wsX9_ones := goodIn_r _ [36] (by decide +kernel) (by decide +kernel)
set_option maxRecDepth 20000 in
theorem gX9_part_X9_ones : GoodIn wsX9_part (va_wsS RX9 202 yX9_ones wsX9_ones) := goodIn_app (goodIn_of _ (by decide +kernel)) ggX9_part_X9_ones
set_option maxRecDepth 20000 in
theorem ggX9_part_X9_common : GoodIn wsX9_part wsX9_common := goodIn_r _ [39] (by decide +kernel) (by decide +kernel)
set_option maxRecDepth 20000 in
theorem gX9_part_X9_common : GoodIn wsX9_part (va_wsS RX9 274 yX9_common wsX9_common) := goodIn_app (goodIn_of _ (by decide +kernel)) ggX9_part_X9_common
theorem dX9_part_0 : decode cX9_part 0 = .ok (.aload_n 0, 1) := by decide +kernel
theorem dX9_part_1 : decode cX9_part 1 = .ok (.getfield 153, 3) := by decide +kernel
theorem dX9_part_4 : decode cX9_part 4 = .ok (.iconst 2, 1) := by decide +kernel
theorem dX9_part_5 : decode cX9_part 5 = .ok (.if_icmp .ge 13, 3) := by decide +kernel
theorem dX9_part_8 : decode cX9_part 8 = .ok (.iload_n 1, 1) := by decide +kernel
theorem dX9_part_9 : decode cX9_part 9 = .ok (.ifCond .eq 7, 3) := by decide +kernel
theorem dX9_part_12 : decode cX9_part 12 = .ok (.lconst 0, 1) := by decide +kernel
theorem dX9_part_13 : decode cX9_part 13 = .ok (.goto 4, 3) := by decide +kernel
theorem dX9_part_16 : decode cX9_part 16 = .ok (.lconst 1, 1) := by decide +kernel
theorem dX9_part_17 : decode cX9_part 17 = .ok (.lreturn, 1) := by decide +kernel
theorem dX9_part_18 : decode cX9_part 18 = .ok (.iconst 0, 1) := by decide +kernel
theorem dX9_part_19 : decode cX9_part 19 = .ok (.istore_n 2, 1) := by decide +kernel
theorem dX9_part_20 : decode cX9_part 20 = .ok (.iconst 0, 1) := by decide +kernel
theorem dX9_part_21 : decode cX9_part 21 = .ok (.istore_n 3, 1) := by decide +kernel
theorem dX9_part_22 : decode cX9_part 22 = .ok (.iload_n 3, 1) := by decide +kernel
theorem dX9_part_23 : decode cX9_part 23 = .ok (.aload_n 0, 1) := by decide +kernel
theorem dX9_part_24 : decode cX9_part 24 = .ok (.getfield 153, 3) := by decide +kernel
theorem dX9_part_27 : decode cX9_part 27 = .ok (.if_icmp .ge 21, 3) := by decide +kernel
theorem dX9_part_30 : decode cX9_part 30 = .ok (.iload_n 2, 1) := by decide +kernel
theorem dX9_part_31 : decode cX9_part 31 = .ok (.aload_n 0, 1) := by decide +kernel
theorem dX9_part_32 : decode cX9_part 32 = .ok (.iload_n 3, 1) := by decide +kernel
theorem dX9_part_33 : decode cX9_part 33 = .ok (.iconst 0, 1) := by decide +kernel
theorem dX9_part_34 : decode cX9_part 34 = .ok (.invokevirtual 185, 3) := by decide +kernel
theorem dX9_part_37 : decode cX9_part 37 = .ok (.invokestatic 202, 3) := by decide +kernel
theorem dX9_part_40 : decode cX9_part 40 = .ok (.iadd, 1) := by decide +kernel
theorem dX9_part_41 : decode cX9_part 41 = .ok (.istore_n 2, 1) := by decide +kernel
theorem dX9_part_42 : decode cX9_part 42 = .ok (.iinc 3 1, 3) := by decide +kernel
theorem dX9_part_45 : decode cX9_part 45 = .ok (.goto (-23), 3) := by decide +kernel
theorem dX9_part_48 : decode cX9_part 48 = .ok (.aload_n 0, 1) := by decide +kernel
theorem dX9_part_49 : decode cX9_part 49 = .ok (.getfield 153, 3) := by decide +kernel
theorem dX9_part_52 : decode cX9_part 52 = .ok (.i2l, 1) := by decide +kernel
theorem dX9_part_53 : decode cX9_part 53 = .ok (.aload_n 0, 1) := by decide +kernel
theorem dX9_part_54 : decode cX9_part 54 = .ok (.getfield 153, 3) := by decide +kernel
theorem dX9_part_57 : decode cX9_part 57 = .ok (.i2l, 1) := by decide +kernel
theorem dX9_part_58 : decode cX9_part 58 = .ok (.lconst 1, 1) := by decide +kernel
theorem dX9_part_59 : decode cX9_part 59 = .ok (.lsub, 1) := by decide +kernel
theorem dX9_part_60 : decode cX9_part 60 = .ok (.lmul, 1) := by decide +kernel
theorem dX9_part_61 : decode cX9_part 61 = .ok (.lstore_n 3, 1) := by decide +kernel
theorem dX9_part_62 : decode cX9_part 62 = .ok (.iload_n 2, 1) := by decide +kernel
theorem dX9_part_63 : decode cX9_part 63 = .ok (.i2l, 1) := by decide +kernel
theorem dX9_part_64 : decode cX9_part 64 = .ok (.lload_n 3, 1) := by decide +kernel
theorem dX9_part_65 : decode cX9_part 65 = .ok (.invokestatic 274, 3) := by decide +kernel
theorem dX9_part_68 : decode cX9_part 68 = .ok (.lstore 5, 2) := by decide +kernel
theorem dX9_part_70 : decode cX9_part 70 = .ok (.iload_n 1, 1) := by decide +kernel
theorem dX9_part_71 : decode cX9_part 71 = .ok (.ifCond .eq 11, 3) := by decide +kernel
theorem dX9_part_74 : decode cX9_part 74 = .ok (.iload_n 2, 1) := by decide +kernel
theorem dX9_part_75 : decode cX9_part 75 = .ok (.i2l, 1) := by decide +kernel
theorem dX9_part_76 : decode cX9_part 76 = .ok (.lload 5, 2) := by decide +kernel
theorem dX9_part_78 : decode cX9_part 78 = .ok (.ldiv, 1) := by decide +kernel
theorem dX9_part_79 : decode cX9_part 79 = .ok (.goto 7, 3) := by decide +kernel
theorem dX9_part_82 : decode cX9_part 82 = .ok (.lload_n 3, 1) := by decide +kernel
theorem dX9_part_83 : decode cX9_part 83 = .ok (.lload 5, 2) := by decide +kernel
theorem dX9_part_85 : decode cX9_part 85 = .ok (.ldiv, 1) := by decide +kernel
theorem dX9_part_86 : decode cX9_part 86 = .ok (.lreturn, 1) := by decide +kernel
set_option maxRecDepth 20000 in
theorem ggX9_upper_X9_part : GoodIn wsX9_upper wsX9_part := goodIn_r _ [5, 6, 7, 8, 9, 4, 10, 11, 12, 13, 14, 15, 16, 17, 18, 19, 20, 21, 22, 23, 24, 25, 26, 27, 28, 29, 30, 31, 32, 33, 34, 35, 36, 37, 38, 39, 40, 41, 42, 43, 44, 45, 46, 47, 48, 49, 50, 51, 52, 53, 54, 55, 56, 57, 58, 59, 60, 61, 62, 63, 64, 65, 66, 67, 68, 69, 70, 71, 72, 73, 74, 75, 76, 77, 78, 79] (by decide +kernel) (by decide +kernel)
set_option maxRecDepth 20000 in
theorem gX9_upper_X9_part : GoodIn wsX9_upper (wsV RX9 278 RX9 yX9_part wsX9_part) := goodIn_app (goodIn_of _ (by decide +kernel)) ggX9_upper_X9_part
theorem dX9_upper_0 : decode cX9_upper 0 = .ok (.aload_n 0, 1) := by decide +kernel
theorem dX9_upper_1 : decode cX9_upper 1 = .ok (.iconst 1, 1) := by decide +kernel
theorem dX9_upper_2 : decode cX9_upper 2 = .ok (.invokevirtual 278, 3) := by decide +kernel
theorem dX9_upper_5 : decode cX9_upper 5 = .ok (.lreturn, 1) := by decide +kernel
set_option maxRecDepth 20000 in
theorem ggX9_lower_X9_part : GoodIn wsX9_lower wsX9_part := goodIn_r _ [5, 6, 7, 8, 9, 4, 10, 11, 12, 13, 14, 15, 16, 17, 18, 19, 20, 21, 22, 23, 24, 25, 26, 27, 28, 29, 30, 31, 32, 33, 34, 35, 36, 37, 38, 39, 40, 41, 42, 43, 44, 45, 46, 47, 48, 49, 50, 51, 52, 53, 54, 55, 56, 57, 58, 59, 60, 61, 62, 63, 64, 65, 66, 67, 68, 69, 70, 71, 72, 73, 74, 75, 76, 77, 78, 79] (by decide +kernel) (by decide +kernel)
set_option maxRecDepth 20000 in
theorem gX9_lower_X9_part : GoodIn wsX9_lower (wsV RX9 278 RX9 yX9_part wsX9_part) := goodIn_app (goodIn_of _ (by decide +kernel)) ggX9_lower_X9_part
theorem dX9_lower_0 : decode cX9_lower 0 = .ok (.aload_n 0, 1) := by decide +kernel
theorem dX9_lower_1 : decode cX9_lower 1 = .ok (.iconst 0, 1) := by decide +kernel
theorem dX9_lower_2 : decode cX9_lower 2 = .ok (.invokevirtual 278, 3) := by decide +kernel
theorem dX9_lower_5 : decode cX9_lower 5 = .ok (.lreturn, 1) := by decide +kernel
set_option maxRecDepth 20000 in
theorem ggX9_manyOf_X9_isKind : GoodIn wsX9_manyOf wsX9_isKind := goodIn_r _ [6] (by decide +kernel) (by decide +kernel)
set_option maxRecDepth 20000 in
theorem gX9_manyOf_X9_isKind : GoodIn wsX9_manyOf (va_wsS RX9 199 yX9_isKind wsX9_isKind) := goodIn_app (goodIn_of _ (by decide +kernel)) ggX9_manyOf_X9_isKind
theorem dX9_manyOf_0 : decode cX9_manyOf 0 = .ok (.iconst 0, 1) := by decide +kernel
theorem dX9_manyOf_1 : decode cX9_manyOf 1 = .ok (.istore_n 2, 1) := by decide +kernel
theorem dX9_manyOf_2 : decode cX9_manyOf 2 = .ok (.iconst 0, 1) := by decide +kernel
theorem dX9_manyOf_3 : decode cX9_manyOf 3 = .ok (.istore_n 3, 1) := by decide +kernel
theorem dX9_manyOf_4 : decode cX9_manyOf 4 = .ok (.iload_n 3, 1) := by decide +kernel
theorem dX9_manyOf_5 : decode cX9_manyOf 5 = .ok (.aload_n 0, 1) := by decide +kernel
theorem dX9_manyOf_6 : decode cX9_manyOf 6 = .ok (.getfield 153, 3) := by decide +kernel
theorem dX9_manyOf_9 : decode cX9_manyOf 9 = .ok (.if_icmp .ge 30, 3) := by decide +kernel
theorem dX9_manyOf_12 : decode cX9_manyOf 12 = .ok (.iload_n 2, 1) := by decide +kernel
theorem dX9_manyOf_13 : decode cX9_manyOf 13 = .ok (.aload_n 0, 1) := by decide +kernel
theorem dX9_manyOf_14 : decode cX9_manyOf 14 = .ok (.getfield 22, 3) := by decide +kernel
theorem dX9_manyOf_17 : decode cX9_manyOf 17 = .ok (.iload_n 3, 1) := by decide +kernel
theorem dX9_manyOf_18 : decode cX9_manyOf 18 = .ok (.iaload, 1) := by decide +kernel
theorem dX9_manyOf_19 : decode cX9_manyOf 19 = .ok (.iload_n 1, 1) := by decide +kernel
theorem dX9_manyOf_20 : decode cX9_manyOf 20 = .ok (.invokestatic 199, 3) := by decide +kernel
theorem dX9_manyOf_23 : decode cX9_manyOf 23 = .ok (.ifCond .eq 7, 3) := by decide +kernel
theorem dX9_manyOf_26 : decode cX9_manyOf 26 = .ok (.iconst 1, 1) := by decide +kernel
theorem dX9_manyOf_27 : decode cX9_manyOf 27 = .ok (.goto 4, 3) := by decide +kernel
theorem dX9_manyOf_30 : decode cX9_manyOf 30 = .ok (.iconst 0, 1) := by decide +kernel
theorem dX9_manyOf_31 : decode cX9_manyOf 31 = .ok (.iadd, 1) := by decide +kernel
theorem dX9_manyOf_32 : decode cX9_manyOf 32 = .ok (.istore_n 2, 1) := by decide +kernel
theorem dX9_manyOf_33 : decode cX9_manyOf 33 = .ok (.iinc 3 1, 3) := by decide +kernel
theorem dX9_manyOf_36 : decode cX9_manyOf 36 = .ok (.goto (-32), 3) := by decide +kernel
theorem dX9_manyOf_39 : decode cX9_manyOf 39 = .ok (.iload_n 2, 1) := by decide +kernel
theorem dX9_manyOf_40 : decode cX9_manyOf 40 = .ok (.ireturn, 1) := by decide +kernel
theorem dX9_there_0 : decode cX9_there 0 = .ok (.iconst 0, 1) := by decide +kernel
theorem dX9_there_1 : decode cX9_there 1 = .ok (.istore_n 1, 1) := by decide +kernel
theorem dX9_there_2 : decode cX9_there 2 = .ok (.iconst 0, 1) := by decide +kernel
theorem dX9_there_3 : decode cX9_there 3 = .ok (.istore_n 2, 1) := by decide +kernel
theorem dX9_there_4 : decode cX9_there 4 = .ok (.iload_n 2, 1) := by decide +kernel
theorem dX9_there_5 : decode cX9_there 5 = .ok (.aload_n 0, 1) := by decide +kernel
theorem dX9_there_6 : decode cX9_there 6 = .ok (.arraylength, 1) := by decide +kernel
theorem dX9_there_7 : decode cX9_there 7 = .ok (.if_icmp .ge 23, 3) := by decide +kernel
theorem dX9_there_10 : decode cX9_there 10 = .ok (.iload_n 1, 1) := by decide +kernel
theorem dX9_there_11 : decode cX9_there 11 = .ok (.aload_n 0, 1) := by decide +kernel
theorem dX9_there_12 : decode cX9_there 12 = .ok (.iload_n 2, 1) := by decide +kernel
theorem dX9_there_13 : decode cX9_there 13 = .ok (.iaload, 1) := by decide +kernel
theorem dX9_there_14 : decode cX9_there 14 = .ok (.ifCond .lt 7, 3) := by decide +kernel
theorem dX9_there_17 : decode cX9_there 17 = .ok (.iconst 1, 1) := by decide +kernel
theorem dX9_there_18 : decode cX9_there 18 = .ok (.goto 4, 3) := by decide +kernel
theorem dX9_there_21 : decode cX9_there 21 = .ok (.iconst 0, 1) := by decide +kernel
theorem dX9_there_22 : decode cX9_there 22 = .ok (.iadd, 1) := by decide +kernel
theorem dX9_there_23 : decode cX9_there 23 = .ok (.istore_n 1, 1) := by decide +kernel
theorem dX9_there_24 : decode cX9_there 24 = .ok (.iinc 2 1, 3) := by decide +kernel
theorem dX9_there_27 : decode cX9_there 27 = .ok (.goto (-23), 3) := by decide +kernel
theorem dX9_there_30 : decode cX9_there 30 = .ok (.iload_n 1, 1) := by decide +kernel
theorem dX9_there_31 : decode cX9_there 31 = .ok (.ireturn, 1) := by decide +kernel
set_option maxRecDepth 20000 in
theorem ggX9_count_X9_manyOf : GoodIn wsX9_count wsX9_manyOf := goodIn_r _ [12, 1, 13, 14, 15, 11, 16, 20, 21, 22, 23, 24, 25, 26, 27, 28, 29, 30, 31, 32, 33, 34, 35, 36, 37, 38, 39, 40, 41, 42, 43, 44, 45, 46, 47, 48, 49, 50, 51, 52, 53, 54, 55] (by decide +kernel) (by decide +kernel)
set_option maxRecDepth 20000 in
theorem gX9_count_X9_manyOf : GoodIn wsX9_count (wsV RX9 282 RX9 yX9_manyOf wsX9_manyOf) := goodIn_app (goodIn_of _ (by decide +kernel)) ggX9_count_X9_manyOf
set_option maxRecDepth 20000 in
theorem ggX9_count_X9_there : GoodIn wsX9_count wsX9_there := goodIn_r _ [19] (by decide +kernel) (by decide +kernel)
set_option maxRecDepth 20000 in
theorem gX9_count_X9_there : GoodIn wsX9_count (va_wsS RX9 285 yX9_there wsX9_there) := goodIn_app (goodIn_of _ (by decide +kernel)) ggX9_count_X9_there
theorem dX9_count_0 : decode cX9_count 0 = .ok (.iload_n 1, 1) := by decide +kernel
theorem dX9_count_1 : decode cX9_count 1 = .ok (.tableswitch 144 0 8 #[51, 56, 61, 66, 71, 77, 83, 91, 99], 51) := by decide +kernel
theorem dX9_count_52 : decode cX9_count 52 = .ok (.aload_n 0, 1) := by decide +kernel
theorem dX9_count_53 : decode cX9_count 53 = .ok (.getfield 153, 3) := by decide +kernel
theorem dX9_count_56 : decode cX9_count 56 = .ok (.ireturn, 1) := by decide +kernel
theorem dX9_count_57 : decode cX9_count 57 = .ok (.aload_n 0, 1) := by decide +kernel
theorem dX9_count_58 : decode cX9_count 58 = .ok (.getfield 150, 3) := by decide +kernel
theorem dX9_count_61 : decode cX9_count 61 = .ok (.ireturn, 1) := by decide +kernel
theorem dX9_count_62 : decode cX9_count 62 = .ok (.aload_n 0, 1) := by decide +kernel
theorem dX9_count_63 : decode cX9_count 63 = .ok (.getfield 156, 3) := by decide +kernel
theorem dX9_count_66 : decode cX9_count 66 = .ok (.ireturn, 1) := by decide +kernel
theorem dX9_count_67 : decode cX9_count 67 = .ok (.aload_n 0, 1) := by decide +kernel
theorem dX9_count_68 : decode cX9_count 68 = .ok (.getfield 159, 3) := by decide +kernel
theorem dX9_count_71 : decode cX9_count 71 = .ok (.ireturn, 1) := by decide +kernel
theorem dX9_count_72 : decode cX9_count 72 = .ok (.aload_n 0, 1) := by decide +kernel
theorem dX9_count_73 : decode cX9_count 73 = .ok (.iconst 1, 1) := by decide +kernel
theorem dX9_count_74 : decode cX9_count 74 = .ok (.invokevirtual 282, 3) := by decide +kernel
theorem dX9_count_77 : decode cX9_count 77 = .ok (.ireturn, 1) := by decide +kernel
theorem dX9_count_78 : decode cX9_count 78 = .ok (.aload_n 0, 1) := by decide +kernel
theorem dX9_count_79 : decode cX9_count 79 = .ok (.iconst 2, 1) := by decide +kernel
theorem dX9_count_80 : decode cX9_count 80 = .ok (.invokevirtual 282, 3) := by decide +kernel
theorem dX9_count_83 : decode cX9_count 83 = .ok (.ireturn, 1) := by decide +kernel
theorem dX9_count_84 : decode cX9_count 84 = .ok (.aload_n 0, 1) := by decide +kernel
theorem dX9_count_85 : decode cX9_count 85 = .ok (.getfield 7, 3) := by decide +kernel
theorem dX9_count_88 : decode cX9_count 88 = .ok (.invokestatic 285, 3) := by decide +kernel
theorem dX9_count_91 : decode cX9_count 91 = .ok (.ireturn, 1) := by decide +kernel
theorem dX9_count_92 : decode cX9_count 92 = .ok (.aload_n 0, 1) := by decide +kernel
theorem dX9_count_93 : decode cX9_count 93 = .ok (.getfield 16, 3) := by decide +kernel
theorem dX9_count_96 : decode cX9_count 96 = .ok (.invokestatic 285, 3) := by decide +kernel
theorem dX9_count_99 : decode cX9_count 99 = .ok (.ireturn, 1) := by decide +kernel
theorem dX9_count_100 : decode cX9_count 100 = .ok (.aload_n 0, 1) := by decide +kernel
theorem dX9_count_101 : decode cX9_count 101 = .ok (.getfield 83, 3) := by decide +kernel
theorem dX9_count_104 : decode cX9_count 104 = .ok (.iconst 0, 1) := by decide +kernel
theorem dX9_count_105 : decode cX9_count 105 = .ok (.baload, 1) := by decide +kernel
theorem dX9_count_106 : decode cX9_count 106 = .ok (.ifCond .eq 7, 3) := by decide +kernel
theorem dX9_count_109 : decode cX9_count 109 = .ok (.iconst 1, 1) := by decide +kernel
theorem dX9_count_110 : decode cX9_count 110 = .ok (.goto 4, 3) := by decide +kernel
theorem dX9_count_113 : decode cX9_count 113 = .ok (.iconst 0, 1) := by decide +kernel
theorem dX9_count_114 : decode cX9_count 114 = .ok (.aload_n 0, 1) := by decide +kernel
theorem dX9_count_115 : decode cX9_count 115 = .ok (.getfield 83, 3) := by decide +kernel
theorem dX9_count_118 : decode cX9_count 118 = .ok (.iconst 1, 1) := by decide +kernel
theorem dX9_count_119 : decode cX9_count 119 = .ok (.baload, 1) := by decide +kernel
theorem dX9_count_120 : decode cX9_count 120 = .ok (.ifCond .eq 7, 3) := by decide +kernel
theorem dX9_count_123 : decode cX9_count 123 = .ok (.iconst 1, 1) := by decide +kernel
theorem dX9_count_124 : decode cX9_count 124 = .ok (.goto 4, 3) := by decide +kernel
theorem dX9_count_127 : decode cX9_count 127 = .ok (.iconst 0, 1) := by decide +kernel
theorem dX9_count_128 : decode cX9_count 128 = .ok (.iadd, 1) := by decide +kernel
theorem dX9_count_129 : decode cX9_count 129 = .ok (.aload_n 0, 1) := by decide +kernel
theorem dX9_count_130 : decode cX9_count 130 = .ok (.getfield 83, 3) := by decide +kernel
theorem dX9_count_133 : decode cX9_count 133 = .ok (.iconst 2, 1) := by decide +kernel
theorem dX9_count_134 : decode cX9_count 134 = .ok (.baload, 1) := by decide +kernel
theorem dX9_count_135 : decode cX9_count 135 = .ok (.ifCond .eq 7, 3) := by decide +kernel
theorem dX9_count_138 : decode cX9_count 138 = .ok (.iconst 1, 1) := by decide +kernel
theorem dX9_count_139 : decode cX9_count 139 = .ok (.goto 4, 3) := by decide +kernel
theorem dX9_count_142 : decode cX9_count 142 = .ok (.iconst 0, 1) := by decide +kernel
theorem dX9_count_143 : decode cX9_count 143 = .ok (.iadd, 1) := by decide +kernel
theorem dX9_count_144 : decode cX9_count 144 = .ok (.ireturn, 1) := by decide +kernel
theorem dX9_count_145 : decode cX9_count 145 = .ok (.iconst (-1), 1) := by decide +kernel
theorem dX9_count_146 : decode cX9_count 146 = .ok (.ireturn, 1) := by decide +kernel
theorem dX9_finding_0 : decode cX9_finding 0 = .ok (.aload_n 0, 1) := by decide +kernel
theorem dX9_finding_1 : decode cX9_finding 1 = .ok (.getfield 89, 3) := by decide +kernel
theorem dX9_finding_4 : decode cX9_finding 4 = .ok (.ireturn, 1) := by decide +kernel
set_option maxRecDepth 20000 in
theorem ggX9_findings_X9_in : GoodIn wsX9_findings wsX9_in := goodIn_r _ [6] (by decide +kernel) (by decide +kernel)
set_option maxRecDepth 20000 in
theorem gX9_findings_X9_in : GoodIn wsX9_findings (va_wsS RX9 98 yX9_in wsX9_in) := goodIn_app (goodIn_of _ (by decide +kernel)) ggX9_findings_X9_in
theorem dX9_findings_0 : decode cX9_findings 0 = .ok (.iload_n 1, 1) := by decide +kernel
theorem dX9_findings_1 : decode cX9_findings 1 = .ok (.i2l, 1) := by decide +kernel
theorem dX9_findings_2 : decode cX9_findings 2 = .ok (.lconst 1, 1) := by decide +kernel
theorem dX9_findings_3 : decode cX9_findings 3 = .ok (.ldc2_w 96, 3) := by decide +kernel
theorem dX9_findings_6 : decode cX9_findings 6 = .ok (.invokestatic 98, 3) := by decide +kernel
theorem dX9_findings_9 : decode cX9_findings 9 = .ok (.ifCond .eq 12, 3) := by decide +kernel
theorem dX9_findings_12 : decode cX9_findings 12 = .ok (.aload_n 0, 1) := by decide +kernel
theorem dX9_findings_13 : decode cX9_findings 13 = .ok (.getfield 49, 3) := by decide +kernel
theorem dX9_findings_16 : decode cX9_findings 16 = .ok (.iload_n 1, 1) := by decide +kernel
theorem dX9_findings_17 : decode cX9_findings 17 = .ok (.iaload, 1) := by decide +kernel
theorem dX9_findings_18 : decode cX9_findings 18 = .ok (.goto 4, 3) := by decide +kernel
theorem dX9_findings_21 : decode cX9_findings 21 = .ok (.iconst (-1), 1) := by decide +kernel
theorem dX9_findings_22 : decode cX9_findings 22 = .ok (.ireturn, 1) := by decide +kernel
theorem dX9_mix_0 : decode cX9_mix 0 = .ok (.aload_n 0, 1) := by decide +kernel
theorem dX9_mix_1 : decode cX9_mix 1 = .ok (.ldc2_w 289, 3) := by decide +kernel
theorem dX9_mix_4 : decode cX9_mix 4 = .ok (.aload_n 0, 1) := by decide +kernel
theorem dX9_mix_5 : decode cX9_mix 5 = .ok (.getfield 291, 3) := by decide +kernel
theorem dX9_mix_8 : decode cX9_mix 8 = .ok (.lmul, 1) := by decide +kernel
theorem dX9_mix_9 : decode cX9_mix 9 = .ok (.lload_n 1, 1) := by decide +kernel
theorem dX9_mix_10 : decode cX9_mix 10 = .ok (.ladd, 1) := by decide +kernel
theorem dX9_mix_11 : decode cX9_mix 11 = .ok (.putfield 291, 3) := by decide +kernel
theorem dX9_mix_14 : decode cX9_mix 14 = .ok (.return_, 1) := by decide +kernel
set_option maxRecDepth 20000 in
theorem ggX9_digest_X9_count : GoodIn wsX9_digest wsX9_count := goodIn_r _ [23, 5, 3, 6, 8, 15, 17, 12, 24, 25, 26, 22, 27, 28, 29, 30, 31, 32, 33, 34, 55, 56, 57, 58, 59, 60, 61, 62, 63, 64, 65, 66, 67, 68, 69, 70, 71, 72, 73, 74, 75, 76, 77, 78, 79, 80, 81, 82, 83, 84, 85, 86, 87, 88, 89, 90] (by decide +kernel) (by decide +kernel)
set_option maxRecDepth 20000 in
theorem gX9_digest_X9_count : GoodIn wsX9_digest (wsV RX9 297 RX9 yX9_count wsX9_count) := goodIn_app (goodIn_of _ (by decide +kernel)) ggX9_digest_X9_count
set_option maxRecDepth 20000 in
theorem ggX9_digest_X9_mix : GoodIn wsX9_digest wsX9_mix := goodIn_r _ [38, 39, 2, 55, 56, 57, 58, 59, 60, 61, 62, 63, 64, 65, 66, 67, 68, 69, 70, 71, 72, 73, 74, 75, 76, 77, 78, 79, 80, 81, 82, 83, 84, 85, 86, 87, 88, 89, 90] (by decide +kernel) (by decide +kernel)
set_option maxRecDepth 20000 in
theorem gX9_digest_X9_mix : GoodIn wsX9_digest (wsV RX9 300 RX9 yX9_mix wsX9_mix) := goodIn_app (goodIn_of _ (by decide +kernel)) ggX9_digest_X9_mix
set_option maxRecDepth 20000 in
theorem ggX9_digest_X9_personOf : GoodIn wsX9_digest wsX9_personOf := goodIn_r _ [43, 44, 28, 45, 46, 47, 22, 48, 49, 50, 51, 52, 53, 54, 55, 56, 57, 58, 59, 60, 61, 62, 63, 64, 65, 66, 67, 68, 69, 70, 71, 72, 73, 74, 75, 76, 77, 78, 79, 80, 81, 82, 83, 84, 85, 86, 87, 88, 89, 90] (by decide +kernel) (by decide +kernel)
set_option maxRecDepth 20000 in
theorem gX9_digest_X9_personOf : GoodIn wsX9_digest (wsV RX9 193 RX9 yX9_personOf wsX9_personOf) := goodIn_app (goodIn_of _ (by decide +kernel)) ggX9_digest_X9_personOf
theorem dX9_digest_0 : decode cX9_digest 0 = .ok (.aload_n 0, 1) := by decide +kernel
theorem dX9_digest_1 : decode cX9_digest 1 = .ok (.ldc2_w 295, 3) := by decide +kernel
theorem dX9_digest_4 : decode cX9_digest 4 = .ok (.putfield 291, 3) := by decide +kernel
theorem dX9_digest_7 : decode cX9_digest 7 = .ok (.iconst 0, 1) := by decide +kernel
theorem dX9_digest_8 : decode cX9_digest 8 = .ok (.istore_n 1, 1) := by decide +kernel
theorem dX9_digest_9 : decode cX9_digest 9 = .ok (.iload_n 1, 1) := by decide +kernel
theorem dX9_digest_10 : decode cX9_digest 10 = .ok (.bipush 9, 2) := by decide +kernel
theorem dX9_digest_12 : decode cX9_digest 12 = .ok (.if_icmp .ge 19, 3) := by decide +kernel
theorem dX9_digest_15 : decode cX9_digest 15 = .ok (.aload_n 0, 1) := by decide +kernel
theorem dX9_digest_16 : decode cX9_digest 16 = .ok (.aload_n 0, 1) := by decide +kernel
theorem dX9_digest_17 : decode cX9_digest 17 = .ok (.iload_n 1, 1) := by decide +kernel
theorem dX9_digest_18 : decode cX9_digest 18 = .ok (.invokevirtual 297, 3) := by decide +kernel
theorem dX9_digest_21 : decode cX9_digest 21 = .ok (.i2l, 1) := by decide +kernel
theorem dX9_digest_22 : decode cX9_digest 22 = .ok (.invokevirtual 300, 3) := by decide +kernel
theorem dX9_digest_25 : decode cX9_digest 25 = .ok (.iinc 1 1, 3) := by decide +kernel
theorem dX9_digest_28 : decode cX9_digest 28 = .ok (.goto (-19), 3) := by decide +kernel
theorem dX9_digest_31 : decode cX9_digest 31 = .ok (.iconst 0, 1) := by decide +kernel
theorem dX9_digest_32 : decode cX9_digest 32 = .ok (.istore_n 1, 1) := by decide +kernel
theorem dX9_digest_33 : decode cX9_digest 33 = .ok (.iload_n 1, 1) := by decide +kernel
theorem dX9_digest_34 : decode cX9_digest 34 = .ok (.aload_n 0, 1) := by decide +kernel
theorem dX9_digest_35 : decode cX9_digest 35 = .ok (.getfield 150, 3) := by decide +kernel
theorem dX9_digest_38 : decode cX9_digest 38 = .ok (.if_icmp .ge 20, 3) := by decide +kernel
theorem dX9_digest_41 : decode cX9_digest 41 = .ok (.aload_n 0, 1) := by decide +kernel
theorem dX9_digest_42 : decode cX9_digest 42 = .ok (.aload_n 0, 1) := by decide +kernel
theorem dX9_digest_43 : decode cX9_digest 43 = .ok (.getfield 28, 3) := by decide +kernel
theorem dX9_digest_46 : decode cX9_digest 46 = .ok (.iload_n 1, 1) := by decide +kernel
theorem dX9_digest_47 : decode cX9_digest 47 = .ok (.iaload, 1) := by decide +kernel
theorem dX9_digest_48 : decode cX9_digest 48 = .ok (.i2l, 1) := by decide +kernel
theorem dX9_digest_49 : decode cX9_digest 49 = .ok (.invokevirtual 300, 3) := by decide +kernel
theorem dX9_digest_52 : decode cX9_digest 52 = .ok (.iinc 1 1, 3) := by decide +kernel
theorem dX9_digest_55 : decode cX9_digest 55 = .ok (.goto (-22), 3) := by decide +kernel
theorem dX9_digest_58 : decode cX9_digest 58 = .ok (.iconst 0, 1) := by decide +kernel
theorem dX9_digest_59 : decode cX9_digest 59 = .ok (.istore_n 1, 1) := by decide +kernel
theorem dX9_digest_60 : decode cX9_digest 60 = .ok (.iload_n 1, 1) := by decide +kernel
theorem dX9_digest_61 : decode cX9_digest 61 = .ok (.iconst 5, 1) := by decide +kernel
theorem dX9_digest_62 : decode cX9_digest 62 = .ok (.aload_n 0, 1) := by decide +kernel
theorem dX9_digest_63 : decode cX9_digest 63 = .ok (.getfield 153, 3) := by decide +kernel
theorem dX9_digest_66 : decode cX9_digest 66 = .ok (.imul, 1) := by decide +kernel
theorem dX9_digest_67 : decode cX9_digest 67 = .ok (.if_icmp .ge 24, 3) := by decide +kernel
theorem dX9_digest_70 : decode cX9_digest 70 = .ok (.aload_n 0, 1) := by decide +kernel
theorem dX9_digest_71 : decode cX9_digest 71 = .ok (.aload_n 0, 1) := by decide +kernel
theorem dX9_digest_72 : decode cX9_digest 72 = .ok (.iload_n 1, 1) := by decide +kernel
theorem dX9_digest_73 : decode cX9_digest 73 = .ok (.iconst 5, 1) := by decide +kernel
theorem dX9_digest_74 : decode cX9_digest 74 = .ok (.idiv, 1) := by decide +kernel
theorem dX9_digest_75 : decode cX9_digest 75 = .ok (.iload_n 1, 1) := by decide +kernel
theorem dX9_digest_76 : decode cX9_digest 76 = .ok (.iconst 5, 1) := by decide +kernel
theorem dX9_digest_77 : decode cX9_digest 77 = .ok (.irem, 1) := by decide +kernel
theorem dX9_digest_78 : decode cX9_digest 78 = .ok (.invokevirtual 193, 3) := by decide +kernel
theorem dX9_digest_81 : decode cX9_digest 81 = .ok (.i2l, 1) := by decide +kernel
theorem dX9_digest_82 : decode cX9_digest 82 = .ok (.invokevirtual 300, 3) := by decide +kernel
theorem dX9_digest_85 : decode cX9_digest 85 = .ok (.iinc 1 1, 3) := by decide +kernel
theorem dX9_digest_88 : decode cX9_digest 88 = .ok (.goto (-28), 3) := by decide +kernel
theorem dX9_digest_91 : decode cX9_digest 91 = .ok (.iconst 0, 1) := by decide +kernel
theorem dX9_digest_92 : decode cX9_digest 92 = .ok (.istore_n 1, 1) := by decide +kernel
theorem dX9_digest_93 : decode cX9_digest 93 = .ok (.iload_n 1, 1) := by decide +kernel
theorem dX9_digest_94 : decode cX9_digest 94 = .ok (.iconst 3, 1) := by decide +kernel
theorem dX9_digest_95 : decode cX9_digest 95 = .ok (.aload_n 0, 1) := by decide +kernel
theorem dX9_digest_96 : decode cX9_digest 96 = .ok (.getfield 156, 3) := by decide +kernel
theorem dX9_digest_99 : decode cX9_digest 99 = .ok (.imul, 1) := by decide +kernel
theorem dX9_digest_100 : decode cX9_digest 100 = .ok (.if_icmp .ge 20, 3) := by decide +kernel
theorem dX9_digest_103 : decode cX9_digest 103 = .ok (.aload_n 0, 1) := by decide +kernel
theorem dX9_digest_104 : decode cX9_digest 104 = .ok (.aload_n 0, 1) := by decide +kernel
theorem dX9_digest_105 : decode cX9_digest 105 = .ok (.getfield 31, 3) := by decide +kernel
theorem dX9_digest_108 : decode cX9_digest 108 = .ok (.iload_n 1, 1) := by decide +kernel
theorem dX9_digest_109 : decode cX9_digest 109 = .ok (.iaload, 1) := by decide +kernel
theorem dX9_digest_110 : decode cX9_digest 110 = .ok (.i2l, 1) := by decide +kernel
theorem dX9_digest_111 : decode cX9_digest 111 = .ok (.invokevirtual 300, 3) := by decide +kernel
theorem dX9_digest_114 : decode cX9_digest 114 = .ok (.iinc 1 1, 3) := by decide +kernel
theorem dX9_digest_117 : decode cX9_digest 117 = .ok (.goto (-24), 3) := by decide +kernel
theorem dX9_digest_120 : decode cX9_digest 120 = .ok (.iconst 0, 1) := by decide +kernel
theorem dX9_digest_121 : decode cX9_digest 121 = .ok (.istore_n 1, 1) := by decide +kernel
theorem dX9_digest_122 : decode cX9_digest 122 = .ok (.iload_n 1, 1) := by decide +kernel
theorem dX9_digest_123 : decode cX9_digest 123 = .ok (.aload_n 0, 1) := by decide +kernel
theorem dX9_digest_124 : decode cX9_digest 124 = .ok (.getfield 159, 3) := by decide +kernel
theorem dX9_digest_127 : decode cX9_digest 127 = .ok (.if_icmp .ge 32, 3) := by decide +kernel
theorem dX9_digest_130 : decode cX9_digest 130 = .ok (.aload_n 0, 1) := by decide +kernel
theorem dX9_digest_131 : decode cX9_digest 131 = .ok (.ldc2_w 304, 3) := by decide +kernel
theorem dX9_digest_134 : decode cX9_digest 134 = .ok (.aload_n 0, 1) := by decide +kernel
theorem dX9_digest_135 : decode cX9_digest 135 = .ok (.getfield 37, 3) := by decide +kernel
theorem dX9_digest_138 : decode cX9_digest 138 = .ok (.iload_n 1, 1) := by decide +kernel
theorem dX9_digest_139 : decode cX9_digest 139 = .ok (.iaload, 1) := by decide +kernel
theorem dX9_digest_140 : decode cX9_digest 140 = .ok (.i2l, 1) := by decide +kernel
theorem dX9_digest_141 : decode cX9_digest 141 = .ok (.lmul, 1) := by decide +kernel
theorem dX9_digest_142 : decode cX9_digest 142 = .ok (.aload_n 0, 1) := by decide +kernel
theorem dX9_digest_143 : decode cX9_digest 143 = .ok (.getfield 40, 3) := by decide +kernel
theorem dX9_digest_146 : decode cX9_digest 146 = .ok (.iload_n 1, 1) := by decide +kernel
theorem dX9_digest_147 : decode cX9_digest 147 = .ok (.iaload, 1) := by decide +kernel
theorem dX9_digest_148 : decode cX9_digest 148 = .ok (.i2l, 1) := by decide +kernel
theorem dX9_digest_149 : decode cX9_digest 149 = .ok (.ladd, 1) := by decide +kernel
theorem dX9_digest_150 : decode cX9_digest 150 = .ok (.invokevirtual 300, 3) := by decide +kernel
theorem dX9_digest_153 : decode cX9_digest 153 = .ok (.iinc 1 1, 3) := by decide +kernel
theorem dX9_digest_156 : decode cX9_digest 156 = .ok (.goto (-34), 3) := by decide +kernel
theorem dX9_digest_159 : decode cX9_digest 159 = .ok (.iconst 0, 1) := by decide +kernel
theorem dX9_digest_160 : decode cX9_digest 160 = .ok (.istore_n 1, 1) := by decide +kernel
theorem dX9_digest_161 : decode cX9_digest 161 = .ok (.iload_n 1, 1) := by decide +kernel
theorem dX9_digest_162 : decode cX9_digest 162 = .ok (.iconst 3, 1) := by decide +kernel
theorem dX9_digest_163 : decode cX9_digest 163 = .ok (.if_icmp .ge 43, 3) := by decide +kernel
theorem dX9_digest_166 : decode cX9_digest 166 = .ok (.aload_n 0, 1) := by decide +kernel
theorem dX9_digest_167 : decode cX9_digest 167 = .ok (.aload_n 0, 1) := by decide +kernel
theorem dX9_digest_168 : decode cX9_digest 168 = .ok (.getfield 83, 3) := by decide +kernel
theorem dX9_digest_171 : decode cX9_digest 171 = .ok (.iload_n 1, 1) := by decide +kernel
theorem dX9_digest_172 : decode cX9_digest 172 = .ok (.baload, 1) := by decide +kernel
theorem dX9_digest_173 : decode cX9_digest 173 = .ok (.ifCond .eq 21, 3) := by decide +kernel
theorem dX9_digest_176 : decode cX9_digest 176 = .ok (.aload_n 0, 1) := by decide +kernel
theorem dX9_digest_177 : decode cX9_digest 177 = .ok (.getfield 86, 3) := by decide +kernel
theorem dX9_digest_180 : decode cX9_digest 180 = .ok (.sipush 488, 3) := by decide +kernel
theorem dX9_digest_183 : decode cX9_digest 183 = .ok (.iload_n 1, 1) := by decide +kernel
theorem dX9_digest_184 : decode cX9_digest 184 = .ok (.imul, 1) := by decide +kernel
theorem dX9_digest_185 : decode cX9_digest 185 = .ok (.sipush 486, 3) := by decide +kernel
theorem dX9_digest_188 : decode cX9_digest 188 = .ok (.iadd, 1) := by decide +kernel
theorem dX9_digest_189 : decode cX9_digest 189 = .ok (.iaload, 1) := by decide +kernel
theorem dX9_digest_190 : decode cX9_digest 190 = .ok (.i2l, 1) := by decide +kernel
theorem dX9_digest_191 : decode cX9_digest 191 = .ok (.goto 6, 3) := by decide +kernel
theorem dX9_digest_194 : decode cX9_digest 194 = .ok (.ldc2_w 306, 3) := by decide +kernel
theorem dX9_digest_197 : decode cX9_digest 197 = .ok (.invokevirtual 300, 3) := by decide +kernel
theorem dX9_digest_200 : decode cX9_digest 200 = .ok (.iinc 1 1, 3) := by decide +kernel
theorem dX9_digest_203 : decode cX9_digest 203 = .ok (.goto (-42), 3) := by decide +kernel
theorem dX9_digest_206 : decode cX9_digest 206 = .ok (.iconst 0, 1) := by decide +kernel
theorem dX9_digest_207 : decode cX9_digest 207 = .ok (.istore_n 1, 1) := by decide +kernel
theorem dX9_digest_208 : decode cX9_digest 208 = .ok (.iload_n 1, 1) := by decide +kernel
theorem dX9_digest_209 : decode cX9_digest 209 = .ok (.bipush 6, 2) := by decide +kernel
theorem dX9_digest_211 : decode cX9_digest 211 = .ok (.if_icmp .ge 54, 3) := by decide +kernel
theorem dX9_digest_214 : decode cX9_digest 214 = .ok (.aload_n 0, 1) := by decide +kernel
theorem dX9_digest_215 : decode cX9_digest 215 = .ok (.aload_n 0, 1) := by decide +kernel
theorem dX9_digest_216 : decode cX9_digest 216 = .ok (.getfield 7, 3) := by decide +kernel
theorem dX9_digest_219 : decode cX9_digest 219 = .ok (.iload_n 1, 1) := by decide +kernel
theorem dX9_digest_220 : decode cX9_digest 220 = .ok (.iaload, 1) := by decide +kernel
theorem dX9_digest_221 : decode cX9_digest 221 = .ok (.i2l, 1) := by decide +kernel
theorem dX9_digest_222 : decode cX9_digest 222 = .ok (.invokevirtual 300, 3) := by decide +kernel
theorem dX9_digest_225 : decode cX9_digest 225 = .ok (.iconst 0, 1) := by decide +kernel
theorem dX9_digest_226 : decode cX9_digest 226 = .ok (.istore_n 2, 1) := by decide +kernel
theorem dX9_digest_227 : decode cX9_digest 227 = .ok (.iload_n 2, 1) := by decide +kernel
theorem dX9_digest_228 : decode cX9_digest 228 = .ok (.aload_n 0, 1) := by decide +kernel
theorem dX9_digest_229 : decode cX9_digest 229 = .ok (.getfield 7, 3) := by decide +kernel
theorem dX9_digest_232 : decode cX9_digest 232 = .ok (.iload_n 1, 1) := by decide +kernel
theorem dX9_digest_233 : decode cX9_digest 233 = .ok (.iaload, 1) := by decide +kernel
theorem dX9_digest_234 : decode cX9_digest 234 = .ok (.if_icmp .ge 25, 3) := by decide +kernel
theorem dX9_digest_237 : decode cX9_digest 237 = .ok (.aload_n 0, 1) := by decide +kernel
theorem dX9_digest_238 : decode cX9_digest 238 = .ok (.aload_n 0, 1) := by decide +kernel
theorem dX9_digest_239 : decode cX9_digest 239 = .ok (.getfield 13, 3) := by decide +kernel
theorem dX9_digest_242 : decode cX9_digest 242 = .ok (.bipush 40, 2) := by decide +kernel
theorem dX9_digest_244 : decode cX9_digest 244 = .ok (.iload_n 1, 1) := by decide +kernel
theorem dX9_digest_245 : decode cX9_digest 245 = .ok (.imul, 1) := by decide +kernel
theorem dX9_digest_246 : decode cX9_digest 246 = .ok (.iload_n 2, 1) := by decide +kernel
theorem dX9_digest_247 : decode cX9_digest 247 = .ok (.iadd, 1) := by decide +kernel
theorem dX9_digest_248 : decode cX9_digest 248 = .ok (.iaload, 1) := by decide +kernel
theorem dX9_digest_249 : decode cX9_digest 249 = .ok (.i2l, 1) := by decide +kernel
theorem dX9_digest_250 : decode cX9_digest 250 = .ok (.invokevirtual 300, 3) := by decide +kernel
theorem dX9_digest_253 : decode cX9_digest 253 = .ok (.iinc 2 1, 3) := by decide +kernel
theorem dX9_digest_256 : decode cX9_digest 256 = .ok (.goto (-29), 3) := by decide +kernel
theorem dX9_digest_259 : decode cX9_digest 259 = .ok (.iinc 1 1, 3) := by decide +kernel
theorem dX9_digest_262 : decode cX9_digest 262 = .ok (.goto (-54), 3) := by decide +kernel
theorem dX9_digest_265 : decode cX9_digest 265 = .ok (.iconst 0, 1) := by decide +kernel
theorem dX9_digest_266 : decode cX9_digest 266 = .ok (.istore_n 1, 1) := by decide +kernel
theorem dX9_digest_267 : decode cX9_digest 267 = .ok (.iload_n 1, 1) := by decide +kernel
theorem dX9_digest_268 : decode cX9_digest 268 = .ok (.iconst 4, 1) := by decide +kernel
theorem dX9_digest_269 : decode cX9_digest 269 = .ok (.if_icmp .ge 54, 3) := by decide +kernel
theorem dX9_digest_272 : decode cX9_digest 272 = .ok (.aload_n 0, 1) := by decide +kernel
theorem dX9_digest_273 : decode cX9_digest 273 = .ok (.aload_n 0, 1) := by decide +kernel
theorem dX9_digest_274 : decode cX9_digest 274 = .ok (.getfield 16, 3) := by decide +kernel
theorem dX9_digest_277 : decode cX9_digest 277 = .ok (.iload_n 1, 1) := by decide +kernel
theorem dX9_digest_278 : decode cX9_digest 278 = .ok (.iaload, 1) := by decide +kernel
theorem dX9_digest_279 : decode cX9_digest 279 = .ok (.i2l, 1) := by decide +kernel
theorem dX9_digest_280 : decode cX9_digest 280 = .ok (.invokevirtual 300, 3) := by decide +kernel
theorem dX9_digest_283 : decode cX9_digest 283 = .ok (.iconst 0, 1) := by decide +kernel
theorem dX9_digest_284 : decode cX9_digest 284 = .ok (.istore_n 2, 1) := by decide +kernel
theorem dX9_digest_285 : decode cX9_digest 285 = .ok (.iload_n 2, 1) := by decide +kernel
theorem dX9_digest_286 : decode cX9_digest 286 = .ok (.aload_n 0, 1) := by decide +kernel
theorem dX9_digest_287 : decode cX9_digest 287 = .ok (.getfield 16, 3) := by decide +kernel
theorem dX9_digest_290 : decode cX9_digest 290 = .ok (.iload_n 1, 1) := by decide +kernel
theorem dX9_digest_291 : decode cX9_digest 291 = .ok (.iaload, 1) := by decide +kernel
theorem dX9_digest_292 : decode cX9_digest 292 = .ok (.if_icmp .ge 25, 3) := by decide +kernel
theorem dX9_digest_295 : decode cX9_digest 295 = .ok (.aload_n 0, 1) := by decide +kernel
theorem dX9_digest_296 : decode cX9_digest 296 = .ok (.aload_n 0, 1) := by decide +kernel
theorem dX9_digest_297 : decode cX9_digest 297 = .ok (.getfield 19, 3) := by decide +kernel
theorem dX9_digest_300 : decode cX9_digest 300 = .ok (.bipush 80, 2) := by decide +kernel
theorem dX9_digest_302 : decode cX9_digest 302 = .ok (.iload_n 1, 1) := by decide +kernel
theorem dX9_digest_303 : decode cX9_digest 303 = .ok (.imul, 1) := by decide +kernel
theorem dX9_digest_304 : decode cX9_digest 304 = .ok (.iload_n 2, 1) := by decide +kernel
theorem dX9_digest_305 : decode cX9_digest 305 = .ok (.iadd, 1) := by decide +kernel
theorem dX9_digest_306 : decode cX9_digest 306 = .ok (.iaload, 1) := by decide +kernel
theorem dX9_digest_307 : decode cX9_digest 307 = .ok (.i2l, 1) := by decide +kernel
theorem dX9_digest_308 : decode cX9_digest 308 = .ok (.invokevirtual 300, 3) := by decide +kernel
theorem dX9_digest_311 : decode cX9_digest 311 = .ok (.iinc 2 1, 3) := by decide +kernel
theorem dX9_digest_314 : decode cX9_digest 314 = .ok (.goto (-29), 3) := by decide +kernel
theorem dX9_digest_317 : decode cX9_digest 317 = .ok (.iinc 1 1, 3) := by decide +kernel
theorem dX9_digest_320 : decode cX9_digest 320 = .ok (.goto (-53), 3) := by decide +kernel
theorem dX9_digest_323 : decode cX9_digest 323 = .ok (.aload_n 0, 1) := by decide +kernel
theorem dX9_digest_324 : decode cX9_digest 324 = .ok (.getfield 291, 3) := by decide +kernel
theorem dX9_digest_327 : decode cX9_digest 327 = .ok (.lreturn, 1) := by decide +kernel
theorem dJ6_bitCount_0f7a4_0 : decode cJ6_bitCount_0f7a4 0 = .ok (.iload_n 0, 1) := by decide +kernel
theorem dJ6_bitCount_0f7a4_1 : decode cJ6_bitCount_0f7a4 1 = .ok (.iload_n 0, 1) := by decide +kernel
theorem dJ6_bitCount_0f7a4_2 : decode cJ6_bitCount_0f7a4 2 = .ok (.iconst 1, 1) := by decide +kernel
theorem dJ6_bitCount_0f7a4_3 : decode cJ6_bitCount_0f7a4 3 = .ok (.iushr, 1) := by decide +kernel
theorem dJ6_bitCount_0f7a4_4 : decode cJ6_bitCount_0f7a4 4 = .ok (.ldc_w 265, 3) := by decide +kernel
theorem dJ6_bitCount_0f7a4_7 : decode cJ6_bitCount_0f7a4 7 = .ok (.iand, 1) := by decide +kernel
theorem dJ6_bitCount_0f7a4_8 : decode cJ6_bitCount_0f7a4 8 = .ok (.isub, 1) := by decide +kernel
theorem dJ6_bitCount_0f7a4_9 : decode cJ6_bitCount_0f7a4 9 = .ok (.istore_n 0, 1) := by decide +kernel
theorem dJ6_bitCount_0f7a4_10 : decode cJ6_bitCount_0f7a4 10 = .ok (.iload_n 0, 1) := by decide +kernel
theorem dJ6_bitCount_0f7a4_11 : decode cJ6_bitCount_0f7a4 11 = .ok (.ldc_w 266, 3) := by decide +kernel
theorem dJ6_bitCount_0f7a4_14 : decode cJ6_bitCount_0f7a4 14 = .ok (.iand, 1) := by decide +kernel
theorem dJ6_bitCount_0f7a4_15 : decode cJ6_bitCount_0f7a4 15 = .ok (.iload_n 0, 1) := by decide +kernel
theorem dJ6_bitCount_0f7a4_16 : decode cJ6_bitCount_0f7a4 16 = .ok (.iconst 2, 1) := by decide +kernel
theorem dJ6_bitCount_0f7a4_17 : decode cJ6_bitCount_0f7a4 17 = .ok (.iushr, 1) := by decide +kernel
theorem dJ6_bitCount_0f7a4_18 : decode cJ6_bitCount_0f7a4 18 = .ok (.ldc_w 266, 3) := by decide +kernel
theorem dJ6_bitCount_0f7a4_21 : decode cJ6_bitCount_0f7a4 21 = .ok (.iand, 1) := by decide +kernel
theorem dJ6_bitCount_0f7a4_22 : decode cJ6_bitCount_0f7a4 22 = .ok (.iadd, 1) := by decide +kernel
theorem dJ6_bitCount_0f7a4_23 : decode cJ6_bitCount_0f7a4 23 = .ok (.istore_n 0, 1) := by decide +kernel
theorem dJ6_bitCount_0f7a4_24 : decode cJ6_bitCount_0f7a4 24 = .ok (.iload_n 0, 1) := by decide +kernel
theorem dJ6_bitCount_0f7a4_25 : decode cJ6_bitCount_0f7a4 25 = .ok (.iload_n 0, 1) := by decide +kernel
theorem dJ6_bitCount_0f7a4_26 : decode cJ6_bitCount_0f7a4 26 = .ok (.iconst 4, 1) := by decide +kernel
theorem dJ6_bitCount_0f7a4_27 : decode cJ6_bitCount_0f7a4 27 = .ok (.iushr, 1) := by decide +kernel
theorem dJ6_bitCount_0f7a4_28 : decode cJ6_bitCount_0f7a4 28 = .ok (.iadd, 1) := by decide +kernel
theorem dJ6_bitCount_0f7a4_29 : decode cJ6_bitCount_0f7a4 29 = .ok (.ldc_w 267, 3) := by decide +kernel
theorem dJ6_bitCount_0f7a4_32 : decode cJ6_bitCount_0f7a4 32 = .ok (.iand, 1) := by decide +kernel
theorem dJ6_bitCount_0f7a4_33 : decode cJ6_bitCount_0f7a4 33 = .ok (.istore_n 0, 1) := by decide +kernel
theorem dJ6_bitCount_0f7a4_34 : decode cJ6_bitCount_0f7a4 34 = .ok (.iload_n 0, 1) := by decide +kernel
theorem dJ6_bitCount_0f7a4_35 : decode cJ6_bitCount_0f7a4 35 = .ok (.iload_n 0, 1) := by decide +kernel
theorem dJ6_bitCount_0f7a4_36 : decode cJ6_bitCount_0f7a4 36 = .ok (.bipush 8, 2) := by decide +kernel
theorem dJ6_bitCount_0f7a4_38 : decode cJ6_bitCount_0f7a4 38 = .ok (.iushr, 1) := by decide +kernel
theorem dJ6_bitCount_0f7a4_39 : decode cJ6_bitCount_0f7a4 39 = .ok (.iadd, 1) := by decide +kernel
theorem dJ6_bitCount_0f7a4_40 : decode cJ6_bitCount_0f7a4 40 = .ok (.istore_n 0, 1) := by decide +kernel
theorem dJ6_bitCount_0f7a4_41 : decode cJ6_bitCount_0f7a4 41 = .ok (.iload_n 0, 1) := by decide +kernel
theorem dJ6_bitCount_0f7a4_42 : decode cJ6_bitCount_0f7a4 42 = .ok (.iload_n 0, 1) := by decide +kernel
theorem dJ6_bitCount_0f7a4_43 : decode cJ6_bitCount_0f7a4 43 = .ok (.bipush 16, 2) := by decide +kernel
theorem dJ6_bitCount_0f7a4_45 : decode cJ6_bitCount_0f7a4 45 = .ok (.iushr, 1) := by decide +kernel
theorem dJ6_bitCount_0f7a4_46 : decode cJ6_bitCount_0f7a4 46 = .ok (.iadd, 1) := by decide +kernel
theorem dJ6_bitCount_0f7a4_47 : decode cJ6_bitCount_0f7a4 47 = .ok (.istore_n 0, 1) := by decide +kernel
theorem dJ6_bitCount_0f7a4_48 : decode cJ6_bitCount_0f7a4 48 = .ok (.iload_n 0, 1) := by decide +kernel
theorem dJ6_bitCount_0f7a4_49 : decode cJ6_bitCount_0f7a4 49 = .ok (.bipush 63, 2) := by decide +kernel
theorem dJ6_bitCount_0f7a4_51 : decode cJ6_bitCount_0f7a4 51 = .ok (.iand, 1) := by decide +kernel
theorem dJ6_bitCount_0f7a4_52 : decode cJ6_bitCount_0f7a4 52 = .ok (.ireturn, 1) := by decide +kernel
theorem dJ9_abs_0f7a4_0 : decode cJ9_abs_0f7a4 0 = .ok (.iload_n 0, 1) := by decide +kernel
theorem dJ9_abs_0f7a4_1 : decode cJ9_abs_0f7a4 1 = .ok (.ifCond .ge 8, 3) := by decide +kernel
theorem dJ9_abs_0f7a4_4 : decode cJ9_abs_0f7a4 4 = .ok (.iload_n 0, 1) := by decide +kernel
theorem dJ9_abs_0f7a4_5 : decode cJ9_abs_0f7a4 5 = .ok (.ineg, 1) := by decide +kernel
theorem dJ9_abs_0f7a4_6 : decode cJ9_abs_0f7a4 6 = .ok (.goto 4, 3) := by decide +kernel
theorem dJ9_abs_0f7a4_9 : decode cJ9_abs_0f7a4 9 = .ok (.iload_n 0, 1) := by decide +kernel
theorem dJ9_abs_0f7a4_10 : decode cJ9_abs_0f7a4 10 = .ok (.ireturn, 1) := by decide +kernel
theorem dJ9_max_7cf53_0 : decode cJ9_max_7cf53 0 = .ok (.iload_n 0, 1) := by decide +kernel
theorem dJ9_max_7cf53_1 : decode cJ9_max_7cf53 1 = .ok (.iload_n 1, 1) := by decide +kernel
theorem dJ9_max_7cf53_2 : decode cJ9_max_7cf53 2 = .ok (.if_icmp .lt 7, 3) := by decide +kernel
theorem dJ9_max_7cf53_5 : decode cJ9_max_7cf53 5 = .ok (.iload_n 0, 1) := by decide +kernel
theorem dJ9_max_7cf53_6 : decode cJ9_max_7cf53 6 = .ok (.goto 4, 3) := by decide +kernel
theorem dJ9_max_7cf53_9 : decode cJ9_max_7cf53 9 = .ok (.iload_n 1, 1) := by decide +kernel
theorem dJ9_max_7cf53_10 : decode cJ9_max_7cf53 10 = .ok (.ireturn, 1) := by decide +kernel
theorem dJ9_min_7cf53_0 : decode cJ9_min_7cf53 0 = .ok (.iload_n 0, 1) := by decide +kernel
theorem dJ9_min_7cf53_1 : decode cJ9_min_7cf53 1 = .ok (.iload_n 1, 1) := by decide +kernel
theorem dJ9_min_7cf53_2 : decode cJ9_min_7cf53 2 = .ok (.if_icmp .gt 7, 3) := by decide +kernel
theorem dJ9_min_7cf53_5 : decode cJ9_min_7cf53 5 = .ok (.iload_n 0, 1) := by decide +kernel
theorem dJ9_min_7cf53_6 : decode cJ9_min_7cf53 6 = .ok (.goto 4, 3) := by decide +kernel
theorem dJ9_min_7cf53_9 : decode cJ9_min_7cf53 9 = .ok (.iload_n 1, 1) := by decide +kernel
theorem dJ9_min_7cf53_10 : decode cJ9_min_7cf53 10 = .ok (.ireturn, 1) := by decide +kernel
