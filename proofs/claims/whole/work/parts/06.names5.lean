set_option maxRecDepth 20000 in
theorem gX9_mark_X9_comesTo : GoodIn wsX9_mark (wsV RX9 175 RX9 yX9_comesTo wsX9_comesTo) := goodIn_app (goodIn_of _ (by decide +kernel)) ggX9_mark_X9_comesTo
set_option maxRecDepth 20000 in
theorem ggX9_mark_X9_isHeard : GoodIn wsX9_mark wsX9_isHeard := goodIn_r _ [50] (by decide +kernel) (by decide +kernel)
set_option maxRecDepth 20000 in
theorem gX9_mark_X9_isHeard : GoodIn wsX9_mark (va_wsS RX9 181 yX9_isHeard wsX9_isHeard) := goodIn_app (goodIn_of _ (by decide +kernel)) ggX9_mark_X9_isHeard
theorem dX9_mark_0 : decode cX9_mark 0 = .ok (.aload_n 0, 1) := by decide +kernel
theorem dX9_mark_1 : decode cX9_mark 1 = .ok (.iload_n 1, 1) := by decide +kernel
theorem dX9_mark_2 : decode cX9_mark 2 = .ok (.invokevirtual 188, 3) := by decide +kernel
theorem dX9_mark_5 : decode cX9_mark 5 = .ok (.ifCond .eq 15, 3) := by decide +kernel
theorem dX9_mark_8 : decode cX9_mark 8 = .ok (.iload_n 2, 1) := by decide +kernel
theorem dX9_mark_9 : decode cX9_mark 9 = .ok (.i2l, 1) := by decide +kernel
theorem dX9_mark_10 : decode cX9_mark 10 = .ok (.lconst 1, 1) := by decide +kernel
theorem dX9_mark_11 : decode cX9_mark 11 = .ok (.ldc2_w 96, 3) := by decide +kernel
theorem dX9_mark_14 : decode cX9_mark 14 = .ok (.invokestatic 98, 3) := by decide +kernel
theorem dX9_mark_17 : decode cX9_mark 17 = .ok (.ifCond .ne 5, 3) := by decide +kernel
theorem dX9_mark_20 : decode cX9_mark 20 = .ok (.iconst (-1), 1) := by decide +kernel
theorem dX9_mark_21 : decode cX9_mark 21 = .ok (.ireturn, 1) := by decide +kernel
theorem dX9_mark_22 : decode cX9_mark 22 = .ok (.aload_n 0, 1) := by decide +kernel
theorem dX9_mark_23 : decode cX9_mark 23 = .ok (.getfield 22, 3) := by decide +kernel
theorem dX9_mark_26 : decode cX9_mark 26 = .ok (.iload_n 1, 1) := by decide +kernel
theorem dX9_mark_27 : decode cX9_mark 27 = .ok (.iaload, 1) := by decide +kernel
theorem dX9_mark_28 : decode cX9_mark 28 = .ok (.iload_n 2, 1) := by decide +kernel
theorem dX9_mark_29 : decode cX9_mark 29 = .ok (.invokestatic 199, 3) := by decide +kernel
theorem dX9_mark_32 : decode cX9_mark 32 = .ok (.ifCond .ne 9, 3) := by decide +kernel
theorem dX9_mark_35 : decode cX9_mark 35 = .ok (.aload_n 0, 1) := by decide +kernel
theorem dX9_mark_36 : decode cX9_mark 36 = .ok (.iconst 3, 1) := by decide +kernel
theorem dX9_mark_37 : decode cX9_mark 37 = .ok (.invokevirtual 108, 3) := by decide +kernel
theorem dX9_mark_40 : decode cX9_mark 40 = .ok (.ireturn, 1) := by decide +kernel
theorem dX9_mark_41 : decode cX9_mark 41 = .ok (.iload_n 2, 1) := by decide +kernel
theorem dX9_mark_42 : decode cX9_mark 42 = .ok (.iconst 1, 1) := by decide +kernel
theorem dX9_mark_43 : decode cX9_mark 43 = .ok (.if_icmp .ne 13, 3) := by decide +kernel
theorem dX9_mark_46 : decode cX9_mark 46 = .ok (.aload_n 0, 1) := by decide +kernel
theorem dX9_mark_47 : decode cX9_mark 47 = .ok (.iload_n 1, 1) := by decide +kernel
theorem dX9_mark_48 : decode cX9_mark 48 = .ok (.iconst 0, 1) := by decide +kernel
theorem dX9_mark_49 : decode cX9_mark 49 = .ok (.invokevirtual 185, 3) := by decide +kernel
theorem dX9_mark_52 : decode cX9_mark 52 = .ok (.invokestatic 202, 3) := by decide +kernel
theorem dX9_mark_55 : decode cX9_mark 55 = .ok (.ireturn, 1) := by decide +kernel
theorem dX9_mark_56 : decode cX9_mark 56 = .ok (.iload_n 2, 1) := by decide +kernel
theorem dX9_mark_57 : decode cX9_mark 57 = .ok (.iconst 4, 1) := by decide +kernel
theorem dX9_mark_58 : decode cX9_mark 58 = .ok (.if_icmp .ne 12, 3) := by decide +kernel
theorem dX9_mark_61 : decode cX9_mark 61 = .ok (.aload_n 0, 1) := by decide +kernel
theorem dX9_mark_62 : decode cX9_mark 62 = .ok (.iconst 0, 1) := by decide +kernel
theorem dX9_mark_63 : decode cX9_mark 63 = .ok (.iconst 1, 1) := by decide +kernel
theorem dX9_mark_64 : decode cX9_mark 64 = .ok (.iload_n 1, 1) := by decide +kernel
theorem dX9_mark_65 : decode cX9_mark 65 = .ok (.ishl, 1) := by decide +kernel
theorem dX9_mark_66 : decode cX9_mark 66 = .ok (.invokevirtual 178, 3) := by decide +kernel
theorem dX9_mark_69 : decode cX9_mark 69 = .ok (.ireturn, 1) := by decide +kernel
theorem dX9_mark_70 : decode cX9_mark 70 = .ok (.iload_n 2, 1) := by decide +kernel
theorem dX9_mark_71 : decode cX9_mark 71 = .ok (.iconst 3, 1) := by decide +kernel
theorem dX9_mark_72 : decode cX9_mark 72 = .ok (.if_icmp .ne 9, 3) := by decide +kernel
theorem dX9_mark_75 : decode cX9_mark 75 = .ok (.aload_n 0, 1) := by decide +kernel
theorem dX9_mark_76 : decode cX9_mark 76 = .ok (.iload_n 1, 1) := by decide +kernel
theorem dX9_mark_77 : decode cX9_mark 77 = .ok (.invokevirtual 205, 3) := by decide +kernel
theorem dX9_mark_80 : decode cX9_mark 80 = .ok (.ireturn, 1) := by decide +kernel
theorem dX9_mark_81 : decode cX9_mark 81 = .ok (.iconst 0, 1) := by decide +kernel
theorem dX9_mark_82 : decode cX9_mark 82 = .ok (.istore_n 3, 1) := by decide +kernel
theorem dX9_mark_83 : decode cX9_mark 83 = .ok (.iconst 0, 1) := by decide +kernel
theorem dX9_mark_84 : decode cX9_mark 84 = .ok (.istore 4, 2) := by decide +kernel
theorem dX9_mark_86 : decode cX9_mark 86 = .ok (.iload 4, 2) := by decide +kernel
theorem dX9_mark_88 : decode cX9_mark 88 = .ok (.aload_n 0, 1) := by decide +kernel
theorem dX9_mark_89 : decode cX9_mark 89 = .ok (.getfield 153, 3) := by decide +kernel
theorem dX9_mark_92 : decode cX9_mark 92 = .ok (.if_icmp .ge 94, 3) := by decide +kernel
theorem dX9_mark_95 : decode cX9_mark 95 = .ok (.iload_n 2, 1) := by decide +kernel
theorem dX9_mark_96 : decode cX9_mark 96 = .ok (.iconst 2, 1) := by decide +kernel
theorem dX9_mark_97 : decode cX9_mark 97 = .ok (.if_icmp .ne 27, 3) := by decide +kernel
theorem dX9_mark_100 : decode cX9_mark 100 = .ok (.aload_n 0, 1) := by decide +kernel
theorem dX9_mark_101 : decode cX9_mark 101 = .ok (.getfield 25, 3) := by decide +kernel
theorem dX9_mark_104 : decode cX9_mark 104 = .ok (.iload 4, 2) := by decide +kernel
theorem dX9_mark_106 : decode cX9_mark 106 = .ok (.iaload, 1) := by decide +kernel
theorem dX9_mark_107 : decode cX9_mark 107 = .ok (.aload_n 0, 1) := by decide +kernel
theorem dX9_mark_108 : decode cX9_mark 108 = .ok (.getfield 25, 3) := by decide +kernel
theorem dX9_mark_111 : decode cX9_mark 111 = .ok (.iload_n 1, 1) := by decide +kernel
theorem dX9_mark_112 : decode cX9_mark 112 = .ok (.iaload, 1) := by decide +kernel
theorem dX9_mark_113 : decode cX9_mark 113 = .ok (.if_icmp .ne 7, 3) := by decide +kernel
theorem dX9_mark_116 : decode cX9_mark 116 = .ok (.iconst 1, 1) := by decide +kernel
theorem dX9_mark_117 : decode cX9_mark 117 = .ok (.goto 42, 3) := by decide +kernel
theorem dX9_mark_120 : decode cX9_mark 120 = .ok (.iconst 0, 1) := by decide +kernel
theorem dX9_mark_121 : decode cX9_mark 121 = .ok (.goto 38, 3) := by decide +kernel
theorem dX9_mark_124 : decode cX9_mark 124 = .ok (.aload_n 0, 1) := by decide +kernel
theorem dX9_mark_125 : decode cX9_mark 125 = .ok (.iload_n 1, 1) := by decide +kernel
theorem dX9_mark_126 : decode cX9_mark 126 = .ok (.iload 4, 2) := by decide +kernel
theorem dX9_mark_128 : decode cX9_mark 128 = .ok (.invokevirtual 196, 3) := by decide +kernel
theorem dX9_mark_131 : decode cX9_mark 131 = .ok (.ifCond .eq 27, 3) := by decide +kernel
theorem dX9_mark_134 : decode cX9_mark 134 = .ok (.iconst 0, 1) := by decide +kernel
theorem dX9_mark_135 : decode cX9_mark 135 = .ok (.aload_n 0, 1) := by decide +kernel
theorem dX9_mark_136 : decode cX9_mark 136 = .ok (.aload_n 0, 1) := by decide +kernel
theorem dX9_mark_137 : decode cX9_mark 137 = .ok (.getfield 25, 3) := by decide +kernel
theorem dX9_mark_140 : decode cX9_mark 140 = .ok (.iload_n 1, 1) := by decide +kernel
theorem dX9_mark_141 : decode cX9_mark 141 = .ok (.iaload, 1) := by decide +kernel
theorem dX9_mark_142 : decode cX9_mark 142 = .ok (.iload 4, 2) := by decide +kernel
theorem dX9_mark_144 : decode cX9_mark 144 = .ok (.invokevirtual 175, 3) := by decide +kernel
theorem dX9_mark_147 : decode cX9_mark 147 = .ok (.iconst 0, 1) := by decide +kernel
theorem dX9_mark_148 : decode cX9_mark 148 = .ok (.invokestatic 181, 3) := by decide +kernel
theorem dX9_mark_151 : decode cX9_mark 151 = .ok (.ifCond .ne 7, 3) := by decide +kernel
theorem dX9_mark_154 : decode cX9_mark 154 = .ok (.iconst 1, 1) := by decide +kernel
theorem dX9_mark_155 : decode cX9_mark 155 = .ok (.goto 4, 3) := by decide +kernel
theorem dX9_mark_158 : decode cX9_mark 158 = .ok (.iconst 0, 1) := by decide +kernel
theorem dX9_mark_159 : decode cX9_mark 159 = .ok (.istore 5, 2) := by decide +kernel
theorem dX9_mark_161 : decode cX9_mark 161 = .ok (.iload_n 3, 1) := by decide +kernel
theorem dX9_mark_162 : decode cX9_mark 162 = .ok (.iload 4, 2) := by decide +kernel
theorem dX9_mark_164 : decode cX9_mark 164 = .ok (.iload_n 1, 1) := by decide +kernel
theorem dX9_mark_165 : decode cX9_mark 165 = .ok (.if_icmp .eq 12, 3) := by decide +kernel
theorem dX9_mark_168 : decode cX9_mark 168 = .ok (.iload 5, 2) := by decide +kernel
theorem dX9_mark_170 : decode cX9_mark 170 = .ok (.ifCond .eq 7, 3) := by decide +kernel
theorem dX9_mark_173 : decode cX9_mark 173 = .ok (.iconst 1, 1) := by decide +kernel
theorem dX9_mark_174 : decode cX9_mark 174 = .ok (.goto 4, 3) := by decide +kernel
theorem dX9_mark_177 : decode cX9_mark 177 = .ok (.iconst 0, 1) := by decide +kernel
theorem dX9_mark_178 : decode cX9_mark 178 = .ok (.iadd, 1) := by decide +kernel
theorem dX9_mark_179 : decode cX9_mark 179 = .ok (.istore_n 3, 1) := by decide +kernel
theorem dX9_mark_180 : decode cX9_mark 180 = .ok (.iinc 4 1, 3) := by decide +kernel
theorem dX9_mark_183 : decode cX9_mark 183 = .ok (.goto (-97), 3) := by decide +kernel
theorem dX9_mark_186 : decode cX9_mark 186 = .ok (.iload_n 3, 1) := by decide +kernel
theorem dX9_mark_187 : decode cX9_mark 187 = .ok (.ireturn, 1) := by decide +kernel
set_option maxRecDepth 20000 in
theorem ggX9_wall_X9_in : GoodIn wsX9_wall wsX9_in := goodIn_r _ [7] (by decide +kernel) (by decide +kernel)
set_option maxRecDepth 20000 in
theorem gX9_wall_X9_in : GoodIn wsX9_wall (va_wsS RX9 98 yX9_in wsX9_in) := goodIn_app (goodIn_of _ (by decide +kernel)) ggX9_wall_X9_in
theorem dX9_wall_0 : decode cX9_wall 0 = .ok (.iload_n 1, 1) := by decide +kernel
theorem dX9_wall_1 : decode cX9_wall 1 = .ok (.i2l, 1) := by decide +kernel
theorem dX9_wall_2 : decode cX9_wall 2 = .ok (.lconst 0, 1) := by decide +kernel
theorem dX9_wall_3 : decode cX9_wall 3 = .ok (.aload_n 0, 1) := by decide +kernel
theorem dX9_wall_4 : decode cX9_wall 4 = .ok (.getfield 150, 3) := by decide +kernel
theorem dX9_wall_7 : decode cX9_wall 7 = .ok (.iconst 1, 1) := by decide +kernel
theorem dX9_wall_8 : decode cX9_wall 8 = .ok (.isub, 1) := by decide +kernel
theorem dX9_wall_9 : decode cX9_wall 9 = .ok (.i2l, 1) := by decide +kernel
theorem dX9_wall_10 : decode cX9_wall 10 = .ok (.invokestatic 98, 3) := by decide +kernel
theorem dX9_wall_13 : decode cX9_wall 13 = .ok (.ifCond .eq 15, 3) := by decide +kernel
theorem dX9_wall_16 : decode cX9_wall 16 = .ok (.iload_n 2, 1) := by decide +kernel
theorem dX9_wall_17 : decode cX9_wall 17 = .ok (.i2l, 1) := by decide +kernel
theorem dX9_wall_18 : decode cX9_wall 18 = .ok (.lconst 0, 1) := by decide +kernel
theorem dX9_wall_19 : decode cX9_wall 19 = .ok (.ldc2_w 208, 3) := by decide +kernel
theorem dX9_wall_22 : decode cX9_wall 22 = .ok (.invokestatic 98, 3) := by decide +kernel
theorem dX9_wall_25 : decode cX9_wall 25 = .ok (.ifCond .ne 5, 3) := by decide +kernel
theorem dX9_wall_28 : decode cX9_wall 28 = .ok (.iconst (-1), 1) := by decide +kernel
theorem dX9_wall_29 : decode cX9_wall 29 = .ok (.ireturn, 1) := by decide +kernel
theorem dX9_wall_30 : decode cX9_wall 30 = .ok (.aload_n 0, 1) := by decide +kernel
theorem dX9_wall_31 : decode cX9_wall 31 = .ok (.getfield 28, 3) := by decide +kernel
theorem dX9_wall_34 : decode cX9_wall 34 = .ok (.iload_n 1, 1) := by decide +kernel
theorem dX9_wall_35 : decode cX9_wall 35 = .ok (.iaload, 1) := by decide +kernel
theorem dX9_wall_36 : decode cX9_wall 36 = .ok (.istore_n 3, 1) := by decide +kernel
theorem dX9_wall_37 : decode cX9_wall 37 = .ok (.aload_n 0, 1) := by decide +kernel
theorem dX9_wall_38 : decode cX9_wall 38 = .ok (.getfield 28, 3) := by decide +kernel
theorem dX9_wall_41 : decode cX9_wall 41 = .ok (.iload_n 1, 1) := by decide +kernel
theorem dX9_wall_42 : decode cX9_wall 42 = .ok (.iload_n 2, 1) := by decide +kernel
theorem dX9_wall_43 : decode cX9_wall 43 = .ok (.iastore, 1) := by decide +kernel
theorem dX9_wall_44 : decode cX9_wall 44 = .ok (.iload_n 3, 1) := by decide +kernel
theorem dX9_wall_45 : decode cX9_wall 45 = .ok (.ireturn, 1) := by decide +kernel
set_option maxRecDepth 20000 in
theorem ggX9_move_X9_isOne : GoodIn wsX9_move wsX9_isOne := goodIn_r _ [6, 7, 8, 9, 5, 10, 16, 17, 18, 19, 20, 21, 22, 23, 24, 25, 26, 27, 28, 29, 30, 31, 32, 33, 34, 35, 36, 37, 38, 39, 40, 41, 42, 43, 44, 45, 46, 47, 48, 49, 50, 51] (by decide +kernel) (by decide +kernel)
set_option maxRecDepth 20000 in
theorem gX9_move_X9_isOne : GoodIn wsX9_move (wsV RX9 188 RX9 yX9_isOne wsX9_isOne) := goodIn_app (goodIn_of _ (by decide +kernel)) ggX9_move_X9_isOne
set_option maxRecDepth 20000 in
theorem ggX9_move_X9_isRoom : GoodIn wsX9_move wsX9_isRoom := goodIn_r _ [14, 15, 8, 9, 5, 10, 16, 17, 18, 19, 20, 21, 22, 23, 24, 25, 26, 27, 28, 29, 30, 31, 32, 33, 34, 35, 36, 37, 38, 39, 40, 41, 42, 43, 44, 45, 46, 47, 48, 49, 50, 51] (by decide +kernel) (by decide +kernel)
set_option maxRecDepth 20000 in
theorem gX9_move_X9_isRoom : GoodIn wsX9_move (wsV RX9 210 RX9 yX9_isRoom wsX9_isRoom) := goodIn_app (goodIn_of _ (by decide +kernel)) ggX9_move_X9_isRoom
theorem dX9_move_0 : decode cX9_move 0 = .ok (.aload_n 0, 1) := by decide +kernel
theorem dX9_move_1 : decode cX9_move 1 = .ok (.iload_n 1, 1) := by decide +kernel
theorem dX9_move_2 : decode cX9_move 2 = .ok (.invokevirtual 188, 3) := by decide +kernel
theorem dX9_move_5 : decode cX9_move 5 = .ok (.ifCond .eq 11, 3) := by decide +kernel
theorem dX9_move_8 : decode cX9_move 8 = .ok (.aload_n 0, 1) := by decide +kernel
theorem dX9_move_9 : decode cX9_move 9 = .ok (.iload_n 2, 1) := by decide +kernel
theorem dX9_move_10 : decode cX9_move 10 = .ok (.invokevirtual 210, 3) := by decide +kernel
theorem dX9_move_13 : decode cX9_move 13 = .ok (.ifCond .ne 5, 3) := by decide +kernel
theorem dX9_move_16 : decode cX9_move 16 = .ok (.iconst (-1), 1) := by decide +kernel
theorem dX9_move_17 : decode cX9_move 17 = .ok (.ireturn, 1) := by decide +kernel
theorem dX9_move_18 : decode cX9_move 18 = .ok (.aload_n 0, 1) := by decide +kernel
theorem dX9_move_19 : decode cX9_move 19 = .ok (.getfield 25, 3) := by decide +kernel
theorem dX9_move_22 : decode cX9_move 22 = .ok (.iload_n 1, 1) := by decide +kernel
theorem dX9_move_23 : decode cX9_move 23 = .ok (.iaload, 1) := by decide +kernel
theorem dX9_move_24 : decode cX9_move 24 = .ok (.istore_n 3, 1) := by decide +kernel
theorem dX9_move_25 : decode cX9_move 25 = .ok (.aload_n 0, 1) := by decide +kernel
theorem dX9_move_26 : decode cX9_move 26 = .ok (.getfield 25, 3) := by decide +kernel
theorem dX9_move_29 : decode cX9_move 29 = .ok (.iload_n 1, 1) := by decide +kernel
theorem dX9_move_30 : decode cX9_move 30 = .ok (.iload_n 2, 1) := by decide +kernel
theorem dX9_move_31 : decode cX9_move 31 = .ok (.iastore, 1) := by decide +kernel
theorem dX9_move_32 : decode cX9_move 32 = .ok (.iload_n 3, 1) := by decide +kernel
theorem dX9_move_33 : decode cX9_move 33 = .ok (.ireturn, 1) := by decide +kernel
set_option maxRecDepth 20000 in
theorem ggX9_areTwo_X9_isOne : GoodIn wsX9_areTwo wsX9_isOne := goodIn_r _ [5, 6, 7, 8, 4, 9, 10, 11, 12, 13, 14, 15, 16, 17, 18, 19, 20, 21, 22, 23, 24, 25, 26, 27, 28, 29, 30, 31, 32, 33, 34, 35, 36, 37, 38, 39, 40, 41, 42, 43, 44, 45] (by decide +kernel) (by decide +kernel)
set_option maxRecDepth 20000 in
theorem gX9_areTwo_X9_isOne : GoodIn wsX9_areTwo (wsV RX9 188 RX9 yX9_isOne wsX9_isOne) := goodIn_app (goodIn_of _ (by decide +kernel)) ggX9_areTwo_X9_isOne
theorem dX9_areTwo_0 : decode cX9_areTwo 0 = .ok (.aload_n 0, 1) := by decide +kernel
theorem dX9_areTwo_1 : decode cX9_areTwo 1 = .ok (.iload_n 1, 1) := by decide +kernel
theorem dX9_areTwo_2 : decode cX9_areTwo 2 = .ok (.invokevirtual 188, 3) := by decide +kernel
theorem dX9_areTwo_5 : decode cX9_areTwo 5 = .ok (.ifCond .eq 20, 3) := by decide +kernel
theorem dX9_areTwo_8 : decode cX9_areTwo 8 = .ok (.aload_n 0, 1) := by decide +kernel
theorem dX9_areTwo_9 : decode cX9_areTwo 9 = .ok (.iload_n 2, 1) := by decide +kernel
theorem dX9_areTwo_10 : decode cX9_areTwo 10 = .ok (.invokevirtual 188, 3) := by decide +kernel
theorem dX9_areTwo_13 : decode cX9_areTwo 13 = .ok (.ifCond .eq 12, 3) := by decide +kernel
theorem dX9_areTwo_16 : decode cX9_areTwo 16 = .ok (.iload_n 1, 1) := by decide +kernel
theorem dX9_areTwo_17 : decode cX9_areTwo 17 = .ok (.iload_n 2, 1) := by decide +kernel
theorem dX9_areTwo_18 : decode cX9_areTwo 18 = .ok (.if_icmp .eq 7, 3) := by decide +kernel
theorem dX9_areTwo_21 : decode cX9_areTwo 21 = .ok (.iconst 1, 1) := by decide +kernel
theorem dX9_areTwo_22 : decode cX9_areTwo 22 = .ok (.goto 4, 3) := by decide +kernel
theorem dX9_areTwo_25 : decode cX9_areTwo 25 = .ok (.iconst 0, 1) := by decide +kernel
theorem dX9_areTwo_26 : decode cX9_areTwo 26 = .ok (.ireturn, 1) := by decide +kernel
set_option maxRecDepth 20000 in
theorem ggX9_hears_X9_areTwo : GoodIn wsX9_hears wsX9_areTwo := goodIn_r _ [6, 7, 8, 9, 5, 10, 11, 12, 13, 14, 54, 55, 56, 57, 58, 59, 60, 61, 62, 63, 64, 65, 66, 67, 68, 69, 70, 71, 72, 73, 74, 75, 76, 77, 78, 79, 80, 81, 82, 83, 84, 85, 86, 87, 88, 89] (by decide +kernel) (by decide +kernel)
set_option maxRecDepth 20000 in
theorem gX9_hears_X9_areTwo : GoodIn wsX9_hears (wsV RX9 213 RX9 yX9_areTwo wsX9_areTwo) := goodIn_app (goodIn_of _ (by decide +kernel)) ggX9_hears_X9_areTwo
set_option maxRecDepth 20000 in
theorem ggX9_hears_X9_doesHear : GoodIn wsX9_hears wsX9_doesHear := goodIn_r _ [18, 19, 20, 21, 5, 22, 11, 23, 1, 24, 25, 26, 27, 28, 29, 30, 31, 32, 33, 34, 35, 36, 37, 38, 39, 40, 41, 42, 43, 44, 45, 46, 47, 48, 54, 55, 56, 57, 58, 59, 60, 61, 62, 63, 64, 65, 66, 67, 68, 69, 70, 71, 72, 73, 74, 75, 76, 77, 78, 79, 80, 81, 82, 83, 84, 85, 86, 87, 88, 89] (by decide +kernel) (by decide +kernel)
set_option maxRecDepth 20000 in
theorem gX9_hears_X9_doesHear : GoodIn wsX9_hears (wsV RX9 196 RX9 yX9_doesHear wsX9_doesHear) := goodIn_app (goodIn_of _ (by decide +kernel)) ggX9_hears_X9_doesHear
set_option maxRecDepth 20000 in
theorem ggX9_hears_X9_comesTo : GoodIn wsX9_hears wsX9_comesTo := goodIn_r _ [30, 23, 1, 31, 32, 5, 33, 34, 35, 36, 37, 38, 54, 55, 56, 57, 58, 59, 60, 61, 62, 63, 64, 65, 66, 67, 68, 69, 70, 71, 72, 73, 74, 75, 76, 77, 78, 79, 80, 81, 82, 83, 84, 85, 86, 87, 88, 89] (by decide +kernel) (by decide +kernel)
set_option maxRecDepth 20000 in
theorem gX9_hears_X9_comesTo : GoodIn wsX9_hears (wsV RX9 175 RX9 yX9_comesTo wsX9_comesTo) := goodIn_app (goodIn_of _ (by decide +kernel)) ggX9_hears_X9_comesTo
set_option maxRecDepth 20000 in
theorem ggX9_hears_X9_say : GoodIn wsX9_hears wsX9_say := goodIn_r _ [52, 53, 54, 55, 56, 57, 58, 59, 60, 61, 62, 63, 64, 65, 66, 67, 68, 69, 70, 71, 72, 73, 74, 75, 76, 77, 78, 79, 80, 81, 82, 83, 84, 85, 86, 87, 88, 89] (by decide +kernel) (by decide +kernel)
set_option maxRecDepth 20000 in
theorem gX9_hears_X9_say : GoodIn wsX9_hears (wsV RX9 116 RX9 yX9_say wsX9_say) := goodIn_app (goodIn_of _ (by decide +kernel)) ggX9_hears_X9_say
theorem dX9_hears_0 : decode cX9_hears 0 = .ok (.aload_n 0, 1) := by decide +kernel
theorem dX9_hears_1 : decode cX9_hears 1 = .ok (.iload_n 1, 1) := by decide +kernel
theorem dX9_hears_2 : decode cX9_hears 2 = .ok (.iload_n 2, 1) := by decide +kernel
theorem dX9_hears_3 : decode cX9_hears 3 = .ok (.invokevirtual 213, 3) := by decide +kernel
theorem dX9_hears_6 : decode cX9_hears 6 = .ok (.ifCond .ne 5, 3) := by decide +kernel
theorem dX9_hears_9 : decode cX9_hears 9 = .ok (.iconst (-1), 1) := by decide +kernel
theorem dX9_hears_10 : decode cX9_hears 10 = .ok (.ireturn, 1) := by decide +kernel
theorem dX9_hears_11 : decode cX9_hears 11 = .ok (.aload_n 0, 1) := by decide +kernel
theorem dX9_hears_12 : decode cX9_hears 12 = .ok (.aload_n 0, 1) := by decide +kernel
theorem dX9_hears_13 : decode cX9_hears 13 = .ok (.iload_n 1, 1) := by decide +kernel
theorem dX9_hears_14 : decode cX9_hears 14 = .ok (.iload_n 2, 1) := by decide +kernel
theorem dX9_hears_15 : decode cX9_hears 15 = .ok (.invokevirtual 196, 3) := by decide +kernel
theorem dX9_hears_18 : decode cX9_hears 18 = .ok (.ifCond .eq 7, 3) := by decide +kernel
theorem dX9_hears_21 : decode cX9_hears 21 = .ok (.iconst 1, 1) := by decide +kernel
theorem dX9_hears_22 : decode cX9_hears 22 = .ok (.goto 4, 3) := by decide +kernel
theorem dX9_hears_25 : decode cX9_hears 25 = .ok (.iconst 0, 1) := by decide +kernel
theorem dX9_hears_26 : decode cX9_hears 26 = .ok (.aload_n 0, 1) := by decide +kernel
theorem dX9_hears_27 : decode cX9_hears 27 = .ok (.aload_n 0, 1) := by decide +kernel
theorem dX9_hears_28 : decode cX9_hears 28 = .ok (.getfield 25, 3) := by decide +kernel
theorem dX9_hears_31 : decode cX9_hears 31 = .ok (.iload_n 1, 1) := by decide +kernel
theorem dX9_hears_32 : decode cX9_hears 32 = .ok (.iaload, 1) := by decide +kernel
theorem dX9_hears_33 : decode cX9_hears 33 = .ok (.iload_n 2, 1) := by decide +kernel
theorem dX9_hears_34 : decode cX9_hears 34 = .ok (.invokevirtual 175, 3) := by decide +kernel
theorem dX9_hears_37 : decode cX9_hears 37 = .ok (.invokevirtual 116, 3) := by decide +kernel
theorem dX9_hears_40 : decode cX9_hears 40 = .ok (.ireturn, 1) := by decide +kernel
set_option maxRecDepth 20000 in
theorem ggX9_heard_X9_isOne : GoodIn wsX9_heard wsX9_isOne := goodIn_r _ [5, 6, 7, 8, 4, 9, 45, 46, 47, 48, 49, 50, 51, 52, 53, 54, 55, 56, 57, 58, 59, 60, 61, 62, 63, 64, 65, 66, 67, 68, 69, 70, 71, 72, 73, 74, 75, 76, 77, 78, 79, 80] (by decide +kernel) (by decide +kernel)
set_option maxRecDepth 20000 in
theorem gX9_heard_X9_isOne : GoodIn wsX9_heard (wsV RX9 188 RX9 yX9_isOne wsX9_isOne) := goodIn_app (goodIn_of _ (by decide +kernel)) ggX9_heard_X9_isOne
set_option maxRecDepth 20000 in
theorem ggX9_heard_X9_isSet : GoodIn wsX9_heard wsX9_isSet := goodIn_r _ [13, 6, 7, 8, 4, 9, 45, 46, 47, 48, 49, 50, 51, 52, 53, 54, 55, 56, 57, 58, 59, 60, 61, 62, 63, 64, 65, 66, 67, 68, 69, 70, 71, 72, 73, 74, 75, 76, 77, 78, 79, 80] (by decide +kernel) (by decide +kernel)
set_option maxRecDepth 20000 in
theorem gX9_heard_X9_isSet : GoodIn wsX9_heard (wsV RX9 216 RX9 yX9_isSet wsX9_isSet) := goodIn_app (goodIn_of _ (by decide +kernel)) ggX9_heard_X9_isSet
set_option maxRecDepth 20000 in
theorem ggX9_heard_X9_has : GoodIn wsX9_heard wsX9_has := goodIn_r _ [16] (by decide +kernel) (by decide +kernel)
set_option maxRecDepth 20000 in
theorem gX9_heard_X9_has : GoodIn wsX9_heard (va_wsS RX9 165 yX9_has wsX9_has) := goodIn_app (goodIn_of _ (by decide +kernel)) ggX9_heard_X9_has
set_option maxRecDepth 20000 in
theorem ggX9_heard_X9_heardBy : GoodIn wsX9_heard wsX9_heardBy := goodIn_r _ [20, 6, 21, 22, 14, 15, 4, 16, 23, 24, 25, 26, 27, 28, 29, 30, 31, 32, 33, 34, 35, 36, 37, 38, 39, 40, 41, 42, 43, 44, 45, 46, 47, 48, 49, 50, 51, 52, 53, 54, 55, 56, 57, 58, 59, 60, 61, 62, 63, 64, 65, 66, 67, 68, 69, 70, 71, 72, 73, 74, 75, 76, 77, 78, 79, 80] (by decide +kernel) (by decide +kernel)
set_option maxRecDepth 20000 in
theorem gX9_heard_X9_heardBy : GoodIn wsX9_heard (wsV RX9 185 RX9 yX9_heardBy wsX9_heardBy) := goodIn_app (goodIn_of _ (by decide +kernel)) ggX9_heard_X9_heardBy
theorem dX9_heard_0 : decode cX9_heard 0 = .ok (.aload_n 0, 1) := by decide +kernel
theorem dX9_heard_1 : decode cX9_heard 1 = .ok (.iload_n 1, 1) := by decide +kernel
theorem dX9_heard_2 : decode cX9_heard 2 = .ok (.invokevirtual 188, 3) := by decide +kernel
theorem dX9_heard_5 : decode cX9_heard 5 = .ok (.ifCond .eq 28, 3) := by decide +kernel
theorem dX9_heard_8 : decode cX9_heard 8 = .ok (.aload_n 0, 1) := by decide +kernel
theorem dX9_heard_9 : decode cX9_heard 9 = .ok (.iload_n 2, 1) := by decide +kernel
theorem dX9_heard_10 : decode cX9_heard 10 = .ok (.invokevirtual 216, 3) := by decide +kernel
theorem dX9_heard_13 : decode cX9_heard 13 = .ok (.ifCond .eq 20, 3) := by decide +kernel
theorem dX9_heard_16 : decode cX9_heard 16 = .ok (.iload_n 2, 1) := by decide +kernel
theorem dX9_heard_17 : decode cX9_heard 17 = .ok (.iload_n 1, 1) := by decide +kernel
theorem dX9_heard_18 : decode cX9_heard 18 = .ok (.invokestatic 165, 3) := by decide +kernel
theorem dX9_heard_21 : decode cX9_heard 21 = .ok (.ifCond .ne 12, 3) := by decide +kernel
theorem dX9_heard_24 : decode cX9_heard 24 = .ok (.aload_n 0, 1) := by decide +kernel
theorem dX9_heard_25 : decode cX9_heard 25 = .ok (.iload_n 1, 1) := by decide +kernel
theorem dX9_heard_26 : decode cX9_heard 26 = .ok (.iload_n 2, 1) := by decide +kernel
theorem dX9_heard_27 : decode cX9_heard 27 = .ok (.invokevirtual 185, 3) := by decide +kernel
theorem dX9_heard_30 : decode cX9_heard 30 = .ok (.goto 4, 3) := by decide +kernel
theorem dX9_heard_33 : decode cX9_heard 33 = .ok (.iconst (-1), 1) := by decide +kernel
theorem dX9_heard_34 : decode cX9_heard 34 = .ok (.ireturn, 1) := by decide +kernel
set_option maxRecDepth 20000 in
theorem ggX9_noise_X9_isRoom : GoodIn wsX9_noise wsX9_isRoom := goodIn_r _ [5, 6, 7, 8, 4, 9, 35, 36, 37, 38, 39, 40, 41, 42, 43, 44, 45, 46, 47, 48, 49, 50, 51, 52, 53, 54, 55, 56, 57, 58, 59, 60, 61, 62, 63, 64, 65, 66, 67, 68, 69, 70] (by decide +kernel) (by decide +kernel)
set_option maxRecDepth 20000 in
theorem gX9_noise_X9_isRoom : GoodIn wsX9_noise (wsV RX9 210 RX9 yX9_isRoom wsX9_isRoom) := goodIn_app (goodIn_of _ (by decide +kernel)) ggX9_noise_X9_isRoom
set_option maxRecDepth 20000 in
theorem ggX9_noise_X9_isSet : GoodIn wsX9_noise wsX9_isSet := goodIn_r _ [13, 14, 7, 8, 4, 9, 35, 36, 37, 38, 39, 40, 41, 42, 43, 44, 45, 46, 47, 48, 49, 50, 51, 52, 53, 54, 55, 56, 57, 58, 59, 60, 61, 62, 63, 64, 65, 66, 67, 68, 69, 70] (by decide +kernel) (by decide +kernel)
set_option maxRecDepth 20000 in
theorem gX9_noise_X9_isSet : GoodIn wsX9_noise (wsV RX9 216 RX9 yX9_isSet wsX9_isSet) := goodIn_app (goodIn_of _ (by decide +kernel)) ggX9_noise_X9_isSet
set_option maxRecDepth 20000 in
theorem ggX9_noise_X9_noiseIn : GoodIn wsX9_noise wsX9_noiseIn := goodIn_r _ [18, 14, 19, 20, 21, 22, 4, 23, 24, 25, 26, 27, 28, 29, 30, 31, 32, 33, 34, 35, 36, 37, 38, 39, 40, 41, 42, 43, 44, 45, 46, 47, 48, 49, 50, 51, 52, 53, 54, 55, 56, 57, 58, 59, 60, 61, 62, 63, 64, 65, 66, 67, 68, 69, 70] (by decide +kernel) (by decide +kernel)
set_option maxRecDepth 20000 in
theorem gX9_noise_X9_noiseIn : GoodIn wsX9_noise (wsV RX9 178 RX9 yX9_noiseIn wsX9_noiseIn) := goodIn_app (goodIn_of _ (by decide +kernel)) ggX9_noise_X9_noiseIn
theorem dX9_noise_0 : decode cX9_noise 0 = .ok (.aload_n 0, 1) := by decide +kernel
theorem dX9_noise_1 : decode cX9_noise 1 = .ok (.iload_n 1, 1) := by decide +kernel
theorem dX9_noise_2 : decode cX9_noise 2 = .ok (.invokevirtual 210, 3) := by decide +kernel
theorem dX9_noise_5 : decode cX9_noise 5 = .ok (.ifCond .eq 20, 3) := by decide +kernel
theorem dX9_noise_8 : decode cX9_noise 8 = .ok (.aload_n 0, 1) := by decide +kernel
theorem dX9_noise_9 : decode cX9_noise 9 = .ok (.iload_n 2, 1) := by decide +kernel
theorem dX9_noise_10 : decode cX9_noise 10 = .ok (.invokevirtual 216, 3) := by decide +kernel
theorem dX9_noise_13 : decode cX9_noise 13 = .ok (.ifCond .eq 12, 3) := by decide +kernel
theorem dX9_noise_16 : decode cX9_noise 16 = .ok (.aload_n 0, 1) := by decide +kernel
theorem dX9_noise_17 : decode cX9_noise 17 = .ok (.iload_n 1, 1) := by decide +kernel
theorem dX9_noise_18 : decode cX9_noise 18 = .ok (.iload_n 2, 1) := by decide +kernel
theorem dX9_noise_19 : decode cX9_noise 19 = .ok (.invokevirtual 178, 3) := by decide +kernel
theorem dX9_noise_22 : decode cX9_noise 22 = .ok (.goto 4, 3) := by decide +kernel
theorem dX9_noise_25 : decode cX9_noise 25 = .ok (.iconst (-1), 1) := by decide +kernel
theorem dX9_noise_26 : decode cX9_noise 26 = .ok (.ireturn, 1) := by decide +kernel
set_option maxRecDepth 20000 in
theorem ggX9_hush_X9_isOne : GoodIn wsX9_hush wsX9_isOne := goodIn_r _ [6, 1, 7, 8, 5, 9, 49, 50, 51, 52, 53, 54, 55, 56, 57, 58, 59, 60, 61, 62, 63, 64, 65, 66, 67, 68, 69, 70, 71, 72, 73, 74, 75, 76, 77, 78, 79, 80, 81, 82, 83, 84] (by decide +kernel) (by decide +kernel)
set_option maxRecDepth 20000 in
theorem gX9_hush_X9_isOne : GoodIn wsX9_hush (wsV RX9 188 RX9 yX9_isOne wsX9_isOne) := goodIn_app (goodIn_of _ (by decide +kernel)) ggX9_hush_X9_isOne
set_option maxRecDepth 20000 in
theorem ggX9_hush_X9_ones : GoodIn wsX9_hush wsX9_ones := goodIn_r _ [12] (by decide +kernel) (by decide +kernel)
set_option maxRecDepth 20000 in
theorem gX9_hush_X9_ones : GoodIn wsX9_hush (va_wsS RX9 202 yX9_ones wsX9_ones) := goodIn_app (goodIn_of _ (by decide +kernel)) ggX9_hush_X9_ones
set_option maxRecDepth 20000 in
theorem ggX9_hush_X9_has : GoodIn wsX9_hush wsX9_has := goodIn_r _ [15] (by decide +kernel) (by decide +kernel)
set_option maxRecDepth 20000 in
theorem gX9_hush_X9_has : GoodIn wsX9_hush (va_wsS RX9 165 yX9_has wsX9_has) := goodIn_app (goodIn_of _ (by decide +kernel)) ggX9_hush_X9_has
set_option maxRecDepth 20000 in
theorem ggX9_hush_X9_heardBy : GoodIn wsX9_hush wsX9_heardBy := goodIn_r _ [19, 1, 20, 21, 13, 14, 5, 15, 22, 23, 24, 25, 26, 27, 28, 29, 30, 31, 32, 33, 34, 35, 36, 37, 38, 39, 40, 41, 42, 43, 49, 50, 51, 52, 53, 54, 55, 56, 57, 58, 59, 60, 61, 62, 63, 64, 65, 66, 67, 68, 69, 70, 71, 72, 73, 74, 75, 76, 77, 78, 79, 80, 81, 82, 83, 84] (by decide +kernel) (by decide +kernel)
set_option maxRecDepth 20000 in
theorem gX9_hush_X9_heardBy : GoodIn wsX9_hush (wsV RX9 185 RX9 yX9_heardBy wsX9_heardBy) := goodIn_app (goodIn_of _ (by decide +kernel)) ggX9_hush_X9_heardBy
set_option maxRecDepth 20000 in
theorem ggX9_hush_X9_say : GoodIn wsX9_hush wsX9_say := goodIn_r _ [47, 48, 49, 50, 51, 52, 53, 54, 55, 56, 57, 58, 59, 60, 61, 62, 63, 64, 65, 66, 67, 68, 69, 70, 71, 72, 73, 74, 75, 76, 77, 78, 79, 80, 81, 82, 83, 84] (by decide +kernel) (by decide +kernel)
set_option maxRecDepth 20000 in
theorem gX9_hush_X9_say : GoodIn wsX9_hush (wsV RX9 116 RX9 yX9_say wsX9_say) := goodIn_app (goodIn_of _ (by decide +kernel)) ggX9_hush_X9_say
theorem dX9_hush_0 : decode cX9_hush 0 = .ok (.aload_n 0, 1) := by decide +kernel
theorem dX9_hush_1 : decode cX9_hush 1 = .ok (.iload_n 1, 1) := by decide +kernel
theorem dX9_hush_2 : decode cX9_hush 2 = .ok (.invokevirtual 188, 3) := by decide +kernel
theorem dX9_hush_5 : decode cX9_hush 5 = .ok (.ifCond .ne 5, 3) := by decide +kernel
theorem dX9_hush_8 : decode cX9_hush 8 = .ok (.iconst (-1), 1) := by decide +kernel
theorem dX9_hush_9 : decode cX9_hush 9 = .ok (.ireturn, 1) := by decide +kernel
theorem dX9_hush_10 : decode cX9_hush 10 = .ok (.bipush (-9), 2) := by decide +kernel
theorem dX9_hush_12 : decode cX9_hush 12 = .ok (.istore_n 2, 1) := by decide +kernel
theorem dX9_hush_13 : decode cX9_hush 13 = .ok (.iconst 0, 1) := by decide +kernel
theorem dX9_hush_14 : decode cX9_hush 14 = .ok (.istore_n 3, 1) := by decide +kernel
theorem dX9_hush_15 : decode cX9_hush 15 = .ok (.iload_n 3, 1) := by decide +kernel
theorem dX9_hush_16 : decode cX9_hush 16 = .ok (.iconst 1, 1) := by decide +kernel
theorem dX9_hush_17 : decode cX9_hush 17 = .ok (.aload_n 0, 1) := by decide +kernel
theorem dX9_hush_18 : decode cX9_hush 18 = .ok (.getfield 153, 3) := by decide +kernel
theorem dX9_hush_21 : decode cX9_hush 21 = .ok (.ishl, 1) := by decide +kernel
theorem dX9_hush_22 : decode cX9_hush 22 = .ok (.if_icmp .ge 61, 3) := by decide +kernel
theorem dX9_hush_25 : decode cX9_hush 25 = .ok (.iload_n 2, 1) := by decide +kernel
theorem dX9_hush_26 : decode cX9_hush 26 = .ok (.bipush (-9), 2) := by decide +kernel
theorem dX9_hush_28 : decode cX9_hush 28 = .ok (.if_icmp .eq 14, 3) := by decide +kernel
theorem dX9_hush_31 : decode cX9_hush 31 = .ok (.iload_n 3, 1) := by decide +kernel
theorem dX9_hush_32 : decode cX9_hush 32 = .ok (.invokestatic 202, 3) := by decide +kernel
theorem dX9_hush_35 : decode cX9_hush 35 = .ok (.iload_n 2, 1) := by decide +kernel
theorem dX9_hush_36 : decode cX9_hush 36 = .ok (.invokestatic 202, 3) := by decide +kernel
theorem dX9_hush_39 : decode cX9_hush 39 = .ok (.if_icmp .ge 7, 3) := by decide +kernel
theorem dX9_hush_42 : decode cX9_hush 42 = .ok (.iconst 1, 1) := by decide +kernel
theorem dX9_hush_43 : decode cX9_hush 43 = .ok (.goto 4, 3) := by decide +kernel
theorem dX9_hush_46 : decode cX9_hush 46 = .ok (.iconst 0, 1) := by decide +kernel
theorem dX9_hush_47 : decode cX9_hush 47 = .ok (.istore 4, 2) := by decide +kernel
theorem dX9_hush_49 : decode cX9_hush 49 = .ok (.iload 4, 2) := by decide +kernel
theorem dX9_hush_51 : decode cX9_hush 51 = .ok (.ifCond .eq 24, 3) := by decide +kernel
theorem dX9_hush_54 : decode cX9_hush 54 = .ok (.iload_n 3, 1) := by decide +kernel
theorem dX9_hush_55 : decode cX9_hush 55 = .ok (.iload_n 1, 1) := by decide +kernel
theorem dX9_hush_56 : decode cX9_hush 56 = .ok (.invokestatic 165, 3) := by decide +kernel
theorem dX9_hush_59 : decode cX9_hush 59 = .ok (.ifCond .ne 16, 3) := by decide +kernel
theorem dX9_hush_62 : decode cX9_hush 62 = .ok (.aload_n 0, 1) := by decide +kernel
theorem dX9_hush_63 : decode cX9_hush 63 = .ok (.iload_n 1, 1) := by decide +kernel
theorem dX9_hush_64 : decode cX9_hush 64 = .ok (.iload_n 3, 1) := by decide +kernel
theorem dX9_hush_65 : decode cX9_hush 65 = .ok (.invokevirtual 185, 3) := by decide +kernel
theorem dX9_hush_68 : decode cX9_hush 68 = .ok (.ifCond .ne 7, 3) := by decide +kernel
theorem dX9_hush_71 : decode cX9_hush 71 = .ok (.iload_n 3, 1) := by decide +kernel
theorem dX9_hush_72 : decode cX9_hush 72 = .ok (.goto 4, 3) := by decide +kernel
theorem dX9_hush_75 : decode cX9_hush 75 = .ok (.iload_n 2, 1) := by decide +kernel
theorem dX9_hush_76 : decode cX9_hush 76 = .ok (.istore_n 2, 1) := by decide +kernel
theorem dX9_hush_77 : decode cX9_hush 77 = .ok (.iinc 3 1, 3) := by decide +kernel
theorem dX9_hush_80 : decode cX9_hush 80 = .ok (.goto (-65), 3) := by decide +kernel
theorem dX9_hush_83 : decode cX9_hush 83 = .ok (.iload_n 2, 1) := by decide +kernel
theorem dX9_hush_84 : decode cX9_hush 84 = .ok (.bipush (-9), 2) := by decide +kernel
theorem dX9_hush_86 : decode cX9_hush 86 = .ok (.if_icmp .ne 8, 3) := by decide +kernel
theorem dX9_hush_89 : decode cX9_hush 89 = .ok (.bipush (-9), 2) := by decide +kernel
theorem dX9_hush_91 : decode cX9_hush 91 = .ok (.goto 12, 3) := by decide +kernel
theorem dX9_hush_94 : decode cX9_hush 94 = .ok (.aload_n 0, 1) := by decide +kernel
theorem dX9_hush_95 : decode cX9_hush 95 = .ok (.iload_n 2, 1) := by decide +kernel
theorem dX9_hush_96 : decode cX9_hush 96 = .ok (.invokestatic 202, 3) := by decide +kernel
theorem dX9_hush_99 : decode cX9_hush 99 = .ok (.iload_n 2, 1) := by decide +kernel
theorem dX9_hush_100 : decode cX9_hush 100 = .ok (.invokevirtual 116, 3) := by decide +kernel
theorem dX9_hush_103 : decode cX9_hush 103 = .ok (.ireturn, 1) := by decide +kernel
set_option maxRecDepth 20000 in
theorem ggX9_talk_X9_areTwo : GoodIn wsX9_talk wsX9_areTwo := goodIn_r _ [7, 8, 9, 10, 6, 11, 12, 13, 14, 15, 23, 24, 25, 26, 27, 28, 29, 30, 31, 32, 33, 34, 35, 36, 37, 38, 39, 40, 41, 42, 43, 44, 45, 46, 47, 48, 49, 50, 51, 52, 53, 54, 55, 56, 57, 58] (by decide +kernel) (by decide +kernel)
set_option maxRecDepth 20000 in
theorem gX9_talk_X9_areTwo : GoodIn wsX9_talk (wsV RX9 213 RX9 yX9_areTwo wsX9_areTwo) := goodIn_app (goodIn_of _ (by decide +kernel)) ggX9_talk_X9_areTwo
set_option maxRecDepth 20000 in
theorem ggX9_talk_X9_isSet : GoodIn wsX9_talk wsX9_isSet := goodIn_r _ [19, 12, 13, 14, 6, 15, 23, 24, 25, 26, 27, 28, 29, 30, 31, 32, 33, 34, 35, 36, 37, 38, 39, 40, 41, 42, 43, 44, 45, 46, 47, 48, 49, 50, 51, 52, 53, 54, 55, 56, 57, 58] (by decide +kernel) (by decide +kernel)
set_option maxRecDepth 20000 in
theorem gX9_talk_X9_isSet : GoodIn wsX9_talk (wsV RX9 216 RX9 yX9_isSet wsX9_isSet) := goodIn_app (goodIn_of _ (by decide +kernel)) ggX9_talk_X9_isSet
set_option maxRecDepth 20000 in
theorem ggX9_talk_X9_has : GoodIn wsX9_talk wsX9_has := goodIn_r _ [22] (by decide +kernel) (by decide +kernel)
set_option maxRecDepth 20000 in
theorem gX9_talk_X9_has : GoodIn wsX9_talk (va_wsS RX9 165 yX9_has wsX9_has) := goodIn_app (goodIn_of _ (by decide +kernel)) ggX9_talk_X9_has
theorem dX9_talk_0 : decode cX9_talk 0 = .ok (.aload_n 0, 1) := by decide +kernel
theorem dX9_talk_1 : decode cX9_talk 1 = .ok (.iload_n 1, 1) := by decide +kernel
theorem dX9_talk_2 : decode cX9_talk 2 = .ok (.iload_n 2, 1) := by decide +kernel
theorem dX9_talk_3 : decode cX9_talk 3 = .ok (.invokevirtual 213, 3) := by decide +kernel
theorem dX9_talk_6 : decode cX9_talk 6 = .ok (.ifCond .eq 27, 3) := by decide +kernel
theorem dX9_talk_9 : decode cX9_talk 9 = .ok (.aload_n 0, 1) := by decide +kernel
theorem dX9_talk_10 : decode cX9_talk 10 = .ok (.iload_n 3, 1) := by decide +kernel
theorem dX9_talk_11 : decode cX9_talk 11 = .ok (.invokevirtual 216, 3) := by decide +kernel
theorem dX9_talk_14 : decode cX9_talk 14 = .ok (.ifCond .eq 19, 3) := by decide +kernel
theorem dX9_talk_17 : decode cX9_talk 17 = .ok (.iload_n 3, 1) := by decide +kernel
theorem dX9_talk_18 : decode cX9_talk 18 = .ok (.iload_n 1, 1) := by decide +kernel
theorem dX9_talk_19 : decode cX9_talk 19 = .ok (.invokestatic 165, 3) := by decide +kernel
theorem dX9_talk_22 : decode cX9_talk 22 = .ok (.ifCond .ne 11, 3) := by decide +kernel
theorem dX9_talk_25 : decode cX9_talk 25 = .ok (.iload_n 3, 1) := by decide +kernel
theorem dX9_talk_26 : decode cX9_talk 26 = .ok (.iload_n 2, 1) := by decide +kernel
theorem dX9_talk_27 : decode cX9_talk 27 = .ok (.invokestatic 165, 3) := by decide +kernel
theorem dX9_talk_30 : decode cX9_talk 30 = .ok (.ifCond .eq 5, 3) := by decide +kernel
theorem dX9_talk_33 : decode cX9_talk 33 = .ok (.iconst (-1), 1) := by decide +kernel
theorem dX9_talk_34 : decode cX9_talk 34 = .ok (.ireturn, 1) := by decide +kernel
theorem dX9_talk_35 : decode cX9_talk 35 = .ok (.aload_n 0, 1) := by decide +kernel
theorem dX9_talk_36 : decode cX9_talk 36 = .ok (.getfield 156, 3) := by decide +kernel
theorem dX9_talk_39 : decode cX9_talk 39 = .ok (.bipush 8, 2) := by decide +kernel
theorem dX9_talk_41 : decode cX9_talk 41 = .ok (.if_icmp .ne 6, 3) := by decide +kernel
theorem dX9_talk_44 : decode cX9_talk 44 = .ok (.bipush (-2), 2) := by decide +kernel
theorem dX9_talk_46 : decode cX9_talk 46 = .ok (.ireturn, 1) := by decide +kernel
theorem dX9_talk_47 : decode cX9_talk 47 = .ok (.aload_n 0, 1) := by decide +kernel
theorem dX9_talk_48 : decode cX9_talk 48 = .ok (.getfield 31, 3) := by decide +kernel
theorem dX9_talk_51 : decode cX9_talk 51 = .ok (.iconst 3, 1) := by decide +kernel
theorem dX9_talk_52 : decode cX9_talk 52 = .ok (.aload_n 0, 1) := by decide +kernel
theorem dX9_talk_53 : decode cX9_talk 53 = .ok (.getfield 156, 3) := by decide +kernel
theorem dX9_talk_56 : decode cX9_talk 56 = .ok (.imul, 1) := by decide +kernel
theorem dX9_talk_57 : decode cX9_talk 57 = .ok (.iload_n 1, 1) := by decide +kernel
theorem dX9_talk_58 : decode cX9_talk 58 = .ok (.iastore, 1) := by decide +kernel
theorem dX9_talk_59 : decode cX9_talk 59 = .ok (.aload_n 0, 1) := by decide +kernel
theorem dX9_talk_60 : decode cX9_talk 60 = .ok (.getfield 31, 3) := by decide +kernel
theorem dX9_talk_63 : decode cX9_talk 63 = .ok (.iconst 3, 1) := by decide +kernel
theorem dX9_talk_64 : decode cX9_talk 64 = .ok (.aload_n 0, 1) := by decide +kernel
theorem dX9_talk_65 : decode cX9_talk 65 = .ok (.getfield 156, 3) := by decide +kernel
theorem dX9_talk_68 : decode cX9_talk 68 = .ok (.imul, 1) := by decide +kernel
theorem dX9_talk_69 : decode cX9_talk 69 = .ok (.iconst 1, 1) := by decide +kernel
theorem dX9_talk_70 : decode cX9_talk 70 = .ok (.iadd, 1) := by decide +kernel
theorem dX9_talk_71 : decode cX9_talk 71 = .ok (.iload_n 2, 1) := by decide +kernel
theorem dX9_talk_72 : decode cX9_talk 72 = .ok (.iastore, 1) := by decide +kernel
theorem dX9_talk_73 : decode cX9_talk 73 = .ok (.aload_n 0, 1) := by decide +kernel
theorem dX9_talk_74 : decode cX9_talk 74 = .ok (.getfield 31, 3) := by decide +kernel
theorem dX9_talk_77 : decode cX9_talk 77 = .ok (.iconst 3, 1) := by decide +kernel
theorem dX9_talk_78 : decode cX9_talk 78 = .ok (.aload_n 0, 1) := by decide +kernel
theorem dX9_talk_79 : decode cX9_talk 79 = .ok (.getfield 156, 3) := by decide +kernel
theorem dX9_talk_82 : decode cX9_talk 82 = .ok (.imul, 1) := by decide +kernel
theorem dX9_talk_83 : decode cX9_talk 83 = .ok (.iconst 2, 1) := by decide +kernel
theorem dX9_talk_84 : decode cX9_talk 84 = .ok (.iadd, 1) := by decide +kernel
theorem dX9_talk_85 : decode cX9_talk 85 = .ok (.iload_n 3, 1) := by decide +kernel
theorem dX9_talk_86 : decode cX9_talk 86 = .ok (.iastore, 1) := by decide +kernel
theorem dX9_talk_87 : decode cX9_talk 87 = .ok (.aload_n 0, 1) := by decide +kernel
theorem dX9_talk_88 : decode cX9_talk 88 = .ok (.dup, 1) := by decide +kernel
theorem dX9_talk_89 : decode cX9_talk 89 = .ok (.getfield 156, 3) := by decide +kernel
theorem dX9_talk_92 : decode cX9_talk 92 = .ok (.iconst 1, 1) := by decide +kernel
theorem dX9_talk_93 : decode cX9_talk 93 = .ok (.iadd, 1) := by decide +kernel
theorem dX9_talk_94 : decode cX9_talk 94 = .ok (.putfield 156, 3) := by decide +kernel
theorem dX9_talk_97 : decode cX9_talk 97 = .ok (.aload_n 0, 1) := by decide +kernel
theorem dX9_talk_98 : decode cX9_talk 98 = .ok (.getfield 156, 3) := by decide +kernel
theorem dX9_talk_101 : decode cX9_talk 101 = .ok (.iconst 1, 1) := by decide +kernel
theorem dX9_talk_102 : decode cX9_talk 102 = .ok (.isub, 1) := by decide +kernel
theorem dX9_talk_103 : decode cX9_talk 103 = .ok (.ireturn, 1) := by decide +kernel
set_option maxRecDepth 20000 in
theorem ggX9_off_X9_in : GoodIn wsX9_off wsX9_in := goodIn_r _ [5] (by decide +kernel) (by decide +kernel)
set_option maxRecDepth 20000 in
theorem gX9_off_X9_in : GoodIn wsX9_off (va_wsS RX9 98 yX9_in wsX9_in) := goodIn_app (goodIn_of _ (by decide +kernel)) ggX9_off_X9_in
theorem dX9_off_0 : decode cX9_off 0 = .ok (.iload_n 1, 1) := by decide +kernel
theorem dX9_off_1 : decode cX9_off 1 = .ok (.i2l, 1) := by decide +kernel
theorem dX9_off_2 : decode cX9_off 2 = .ok (.lconst 0, 1) := by decide +kernel
theorem dX9_off_3 : decode cX9_off 3 = .ok (.aload_n 0, 1) := by decide +kernel
theorem dX9_off_4 : decode cX9_off 4 = .ok (.getfield 156, 3) := by decide +kernel
theorem dX9_off_7 : decode cX9_off 7 = .ok (.i2l, 1) := by decide +kernel
theorem dX9_off_8 : decode cX9_off 8 = .ok (.invokestatic 98, 3) := by decide +kernel
theorem dX9_off_11 : decode cX9_off 11 = .ok (.ifCond .ne 5, 3) := by decide +kernel
theorem dX9_off_14 : decode cX9_off 14 = .ok (.iconst (-1), 1) := by decide +kernel
theorem dX9_off_15 : decode cX9_off 15 = .ok (.ireturn, 1) := by decide +kernel
theorem dX9_off_16 : decode cX9_off 16 = .ok (.aload_n 0, 1) := by decide +kernel
theorem dX9_off_17 : decode cX9_off 17 = .ok (.getfield 156, 3) := by decide +kernel
theorem dX9_off_20 : decode cX9_off 20 = .ok (.iload_n 1, 1) := by decide +kernel
theorem dX9_off_21 : decode cX9_off 21 = .ok (.isub, 1) := by decide +kernel
theorem dX9_off_22 : decode cX9_off 22 = .ok (.istore_n 2, 1) := by decide +kernel
theorem dX9_off_23 : decode cX9_off 23 = .ok (.aload_n 0, 1) := by decide +kernel
theorem dX9_off_24 : decode cX9_off 24 = .ok (.iload_n 1, 1) := by decide +kernel
theorem dX9_off_25 : decode cX9_off 25 = .ok (.putfield 156, 3) := by decide +kernel
theorem dX9_off_28 : decode cX9_off 28 = .ok (.iload_n 2, 1) := by decide +kernel
theorem dX9_off_29 : decode cX9_off 29 = .ok (.ireturn, 1) := by decide +kernel
set_option maxRecDepth 20000 in
theorem ggX9_lacksTalk_X9_find : GoodIn wsX9_lacksTalk wsX9_find := goodIn_r _ [6, 7, 8, 9, 10, 11, 12, 13, 14, 15, 16, 17, 18, 19, 20, 21, 22, 23, 24, 25, 26, 27, 28, 29, 30, 31, 32, 33, 34, 35, 36, 37, 38, 39, 40, 41, 42, 43, 44] (by decide +kernel) (by decide +kernel)
set_option maxRecDepth 20000 in
theorem gX9_lacksTalk_X9_find : GoodIn wsX9_lacksTalk (wsV RX9 108 RX9 yX9_find wsX9_find) := goodIn_app (goodIn_of _ (by decide +kernel)) ggX9_lacksTalk_X9_find
theorem dX9_lacksTalk_0 : decode cX9_lacksTalk 0 = .ok (.iload_n 1, 1) := by decide +kernel
theorem dX9_lacksTalk_1 : decode cX9_lacksTalk 1 = .ok (.ifCond .ge 7, 3) := by decide +kernel
theorem dX9_lacksTalk_4 : decode cX9_lacksTalk 4 = .ok (.iconst (-1), 1) := by decide +kernel
theorem dX9_lacksTalk_5 : decode cX9_lacksTalk 5 = .ok (.goto 20, 3) := by decide +kernel
theorem dX9_lacksTalk_8 : decode cX9_lacksTalk 8 = .ok (.iload_n 1, 1) := by decide +kernel
theorem dX9_lacksTalk_9 : decode cX9_lacksTalk 9 = .ok (.aload_n 0, 1) := by decide +kernel
theorem dX9_lacksTalk_10 : decode cX9_lacksTalk 10 = .ok (.getfield 156, 3) := by decide +kernel
theorem dX9_lacksTalk_13 : decode cX9_lacksTalk 13 = .ok (.if_icmp .ge 7, 3) := by decide +kernel
theorem dX9_lacksTalk_16 : decode cX9_lacksTalk 16 = .ok (.iconst 0, 1) := by decide +kernel
theorem dX9_lacksTalk_17 : decode cX9_lacksTalk 17 = .ok (.goto 8, 3) := by decide +kernel
theorem dX9_lacksTalk_20 : decode cX9_lacksTalk 20 = .ok (.aload_n 0, 1) := by decide +kernel
theorem dX9_lacksTalk_21 : decode cX9_lacksTalk 21 = .ok (.iconst 2, 1) := by decide +kernel
theorem dX9_lacksTalk_22 : decode cX9_lacksTalk 22 = .ok (.invokevirtual 108, 3) := by decide +kernel
theorem dX9_lacksTalk_25 : decode cX9_lacksTalk 25 = .ok (.ireturn, 1) := by decide +kernel
set_option maxRecDepth 20000 in
theorem ggX9_about_X9_in : GoodIn wsX9_about wsX9_in := goodIn_r _ [6] (by decide +kernel) (by decide +kernel)
set_option maxRecDepth 20000 in
theorem gX9_about_X9_in : GoodIn wsX9_about (va_wsS RX9 98 yX9_in wsX9_in) := goodIn_app (goodIn_of _ (by decide +kernel)) ggX9_about_X9_in
set_option maxRecDepth 20000 in
theorem ggX9_about_X9_lacksTalk : GoodIn wsX9_about wsX9_lacksTalk := goodIn_r _ [10, 11, 12, 13, 14, 5, 15, 16, 17, 23, 24, 25, 26, 27, 28, 29, 30, 31, 32, 33, 34, 35, 36, 37, 38, 39, 40, 41, 42, 43, 44, 45, 46, 47, 48, 49, 50, 51, 52, 53, 54, 55, 56, 57, 58] (by decide +kernel) (by decide +kernel)
set_option maxRecDepth 20000 in
theorem gX9_about_X9_lacksTalk : GoodIn wsX9_about (wsV RX9 221 RX9 yX9_lacksTalk wsX9_lacksTalk) := goodIn_app (goodIn_of _ (by decide +kernel)) ggX9_about_X9_lacksTalk
set_option maxRecDepth 20000 in
theorem ggX9_about_X9_say : GoodIn wsX9_about wsX9_say := goodIn_r _ [21, 22, 23, 24, 25, 26, 27, 28, 29, 30, 31, 32, 33, 34, 35, 36, 37, 38, 39, 40, 41, 42, 43, 44, 45, 46, 47, 48, 49, 50, 51, 52, 53, 54, 55, 56, 57, 58] (by decide +kernel) (by decide +kernel)
set_option maxRecDepth 20000 in
theorem gX9_about_X9_say : GoodIn wsX9_about (wsV RX9 116 RX9 yX9_say wsX9_say) := goodIn_app (goodIn_of _ (by decide +kernel)) ggX9_about_X9_say
theorem dX9_about_0 : decode cX9_about 0 = .ok (.iload_n 1, 1) := by decide +kernel
theorem dX9_about_1 : decode cX9_about 1 = .ok (.ifCond .lt 15, 3) := by decide +kernel
theorem dX9_about_4 : decode cX9_about 4 = .ok (.iload_n 2, 1) := by decide +kernel
theorem dX9_about_5 : decode cX9_about 5 = .ok (.i2l, 1) := by decide +kernel
theorem dX9_about_6 : decode cX9_about 6 = .ok (.lconst 0, 1) := by decide +kernel
theorem dX9_about_7 : decode cX9_about 7 = .ok (.ldc2_w 219, 3) := by decide +kernel
theorem dX9_about_10 : decode cX9_about 10 = .ok (.invokestatic 98, 3) := by decide +kernel
theorem dX9_about_13 : decode cX9_about 13 = .ok (.ifCond .ne 5, 3) := by decide +kernel
theorem dX9_about_16 : decode cX9_about 16 = .ok (.iconst (-1), 1) := by decide +kernel
theorem dX9_about_17 : decode cX9_about 17 = .ok (.ireturn, 1) := by decide +kernel
theorem dX9_about_18 : decode cX9_about 18 = .ok (.aload_n 0, 1) := by decide +kernel
theorem dX9_about_19 : decode cX9_about 19 = .ok (.iload_n 1, 1) := by decide +kernel
theorem dX9_about_20 : decode cX9_about 20 = .ok (.invokevirtual 221, 3) := by decide +kernel
theorem dX9_about_23 : decode cX9_about 23 = .ok (.istore_n 3, 1) := by decide +kernel
theorem dX9_about_24 : decode cX9_about 24 = .ok (.iload_n 3, 1) := by decide +kernel
theorem dX9_about_25 : decode cX9_about 25 = .ok (.ifCond .ge 7, 3) := by decide +kernel
theorem dX9_about_28 : decode cX9_about 28 = .ok (.iload_n 3, 1) := by decide +kernel
theorem dX9_about_29 : decode cX9_about 29 = .ok (.goto 18, 3) := by decide +kernel
theorem dX9_about_32 : decode cX9_about 32 = .ok (.aload_n 0, 1) := by decide +kernel
theorem dX9_about_33 : decode cX9_about 33 = .ok (.iconst 1, 1) := by decide +kernel
theorem dX9_about_34 : decode cX9_about 34 = .ok (.aload_n 0, 1) := by decide +kernel
theorem dX9_about_35 : decode cX9_about 35 = .ok (.getfield 31, 3) := by decide +kernel
theorem dX9_about_38 : decode cX9_about 38 = .ok (.iconst 3, 1) := by decide +kernel
theorem dX9_about_39 : decode cX9_about 39 = .ok (.iload_n 1, 1) := by decide +kernel
theorem dX9_about_40 : decode cX9_about 40 = .ok (.imul, 1) := by decide +kernel
theorem dX9_about_41 : decode cX9_about 41 = .ok (.iload_n 2, 1) := by decide +kernel
theorem dX9_about_42 : decode cX9_about 42 = .ok (.iadd, 1) := by decide +kernel
theorem dX9_about_43 : decode cX9_about 43 = .ok (.iaload, 1) := by decide +kernel
theorem dX9_about_44 : decode cX9_about 44 = .ok (.invokevirtual 116, 3) := by decide +kernel
theorem dX9_about_47 : decode cX9_about 47 = .ok (.ireturn, 1) := by decide +kernel
set_option maxRecDepth 20000 in
theorem ggX9_isSafe_X9_heardBy : GoodIn wsX9_isSafe wsX9_heardBy := goodIn_r _ [6, 7, 8, 9, 10, 11, 5, 12, 13, 14, 15, 16, 17, 18, 19, 20, 21, 22, 23, 24, 25, 26, 27, 28, 29, 30, 31, 32, 33, 34, 35, 36, 37, 38, 39, 40, 41, 42, 43, 44, 45, 46, 47, 48, 49, 50, 51, 52, 53, 54, 55, 56, 57, 58, 59, 60, 61, 62, 63, 64, 65, 66, 67, 68, 69, 70] (by decide +kernel) (by decide +kernel)
set_option maxRecDepth 20000 in
theorem gX9_isSafe_X9_heardBy : GoodIn wsX9_isSafe (wsV RX9 185 RX9 yX9_heardBy wsX9_heardBy) := goodIn_app (goodIn_of _ (by decide +kernel)) ggX9_isSafe_X9_heardBy
set_option maxRecDepth 20000 in
theorem ggX9_isSafe_X9_has : GoodIn wsX9_isSafe wsX9_has := goodIn_r _ [12] (by decide +kernel) (by decide +kernel)
set_option maxRecDepth 20000 in
theorem gX9_isSafe_X9_has : GoodIn wsX9_isSafe (va_wsS RX9 165 yX9_has wsX9_has) := goodIn_app (goodIn_of _ (by decide +kernel)) ggX9_isSafe_X9_has
theorem dX9_isSafe_0 : decode cX9_isSafe 0 = .ok (.aload_n 0, 1) := by decide +kernel
theorem dX9_isSafe_1 : decode cX9_isSafe 1 = .ok (.getfield 31, 3) := by decide +kernel
theorem dX9_isSafe_4 : decode cX9_isSafe 4 = .ok (.iconst 3, 1) := by decide +kernel
theorem dX9_isSafe_5 : decode cX9_isSafe 5 = .ok (.iload_n 1, 1) := by decide +kernel
theorem dX9_isSafe_6 : decode cX9_isSafe 6 = .ok (.imul, 1) := by decide +kernel
theorem dX9_isSafe_7 : decode cX9_isSafe 7 = .ok (.iaload, 1) := by decide +kernel
theorem dX9_isSafe_8 : decode cX9_isSafe 8 = .ok (.istore_n 3, 1) := by decide +kernel
theorem dX9_isSafe_9 : decode cX9_isSafe 9 = .ok (.aload_n 0, 1) := by decide +kernel
theorem dX9_isSafe_10 : decode cX9_isSafe 10 = .ok (.getfield 31, 3) := by decide +kernel
theorem dX9_isSafe_13 : decode cX9_isSafe 13 = .ok (.iconst 3, 1) := by decide +kernel
theorem dX9_isSafe_14 : decode cX9_isSafe 14 = .ok (.iload_n 1, 1) := by decide +kernel
theorem dX9_isSafe_15 : decode cX9_isSafe 15 = .ok (.imul, 1) := by decide +kernel
theorem dX9_isSafe_16 : decode cX9_isSafe 16 = .ok (.iconst 1, 1) := by decide +kernel
theorem dX9_isSafe_17 : decode cX9_isSafe 17 = .ok (.iadd, 1) := by decide +kernel
theorem dX9_isSafe_18 : decode cX9_isSafe 18 = .ok (.iaload, 1) := by decide +kernel
theorem dX9_isSafe_19 : decode cX9_isSafe 19 = .ok (.istore 4, 2) := by decide +kernel
theorem dX9_isSafe_21 : decode cX9_isSafe 21 = .ok (.aload_n 0, 1) := by decide +kernel
theorem dX9_isSafe_22 : decode cX9_isSafe 22 = .ok (.iload_n 3, 1) := by decide +kernel
theorem dX9_isSafe_23 : decode cX9_isSafe 23 = .ok (.iload_n 2, 1) := by decide +kernel
theorem dX9_isSafe_24 : decode cX9_isSafe 24 = .ok (.invokevirtual 185, 3) := by decide +kernel
theorem dX9_isSafe_27 : decode cX9_isSafe 27 = .ok (.istore 5, 2) := by decide +kernel
theorem dX9_isSafe_29 : decode cX9_isSafe 29 = .ok (.iload_n 2, 1) := by decide +kernel
theorem dX9_isSafe_30 : decode cX9_isSafe 30 = .ok (.iload_n 3, 1) := by decide +kernel
theorem dX9_isSafe_31 : decode cX9_isSafe 31 = .ok (.invokestatic 165, 3) := by decide +kernel
theorem dX9_isSafe_34 : decode cX9_isSafe 34 = .ok (.ifCond .ne 42, 3) := by decide +kernel
theorem dX9_isSafe_37 : decode cX9_isSafe 37 = .ok (.iload_n 2, 1) := by decide +kernel
theorem dX9_isSafe_38 : decode cX9_isSafe 38 = .ok (.iload 4, 2) := by decide +kernel
theorem dX9_isSafe_40 : decode cX9_isSafe 40 = .ok (.invokestatic 165, 3) := by decide +kernel
theorem dX9_isSafe_43 : decode cX9_isSafe 43 = .ok (.ifCond .ne 33, 3) := by decide +kernel
theorem dX9_isSafe_46 : decode cX9_isSafe 46 = .ok (.iload 5, 2) := by decide +kernel
theorem dX9_isSafe_48 : decode cX9_isSafe 48 = .ok (.iload 4, 2) := by decide +kernel
theorem dX9_isSafe_50 : decode cX9_isSafe 50 = .ok (.invokestatic 165, 3) := by decide +kernel
theorem dX9_isSafe_53 : decode cX9_isSafe 53 = .ok (.ifCond .eq 23, 3) := by decide +kernel
theorem dX9_isSafe_56 : decode cX9_isSafe 56 = .ok (.iload 5, 2) := by decide +kernel
theorem dX9_isSafe_58 : decode cX9_isSafe 58 = .ok (.aload_n 0, 1) := by decide +kernel
theorem dX9_isSafe_59 : decode cX9_isSafe 59 = .ok (.getfield 31, 3) := by decide +kernel
theorem dX9_isSafe_62 : decode cX9_isSafe 62 = .ok (.iconst 3, 1) := by decide +kernel
theorem dX9_isSafe_63 : decode cX9_isSafe 63 = .ok (.iload_n 1, 1) := by decide +kernel
theorem dX9_isSafe_64 : decode cX9_isSafe 64 = .ok (.imul, 1) := by decide +kernel
theorem dX9_isSafe_65 : decode cX9_isSafe 65 = .ok (.iconst 2, 1) := by decide +kernel
theorem dX9_isSafe_66 : decode cX9_isSafe 66 = .ok (.iadd, 1) := by decide +kernel
theorem dX9_isSafe_67 : decode cX9_isSafe 67 = .ok (.iaload, 1) := by decide +kernel
theorem dX9_isSafe_68 : decode cX9_isSafe 68 = .ok (.iand, 1) := by decide +kernel
theorem dX9_isSafe_69 : decode cX9_isSafe 69 = .ok (.ifCond .ne 7, 3) := by decide +kernel
theorem dX9_isSafe_72 : decode cX9_isSafe 72 = .ok (.iconst 1, 1) := by decide +kernel
theorem dX9_isSafe_73 : decode cX9_isSafe 73 = .ok (.goto 4, 3) := by decide +kernel
theorem dX9_isSafe_76 : decode cX9_isSafe 76 = .ok (.iconst 0, 1) := by decide +kernel
theorem dX9_isSafe_77 : decode cX9_isSafe 77 = .ok (.ireturn, 1) := by decide +kernel
set_option maxRecDepth 20000 in
theorem ggX9_safe_X9_isSet : GoodIn wsX9_safe wsX9_isSet := goodIn_r _ [6, 7, 8, 9, 5, 10, 62, 63, 64, 65, 66, 67, 68, 69, 70, 71, 72, 73, 74, 75, 76, 77, 78, 79, 80, 81, 82, 83, 84, 85, 86, 87, 88, 89, 90, 91, 92, 93, 94, 95, 96, 97] (by decide +kernel) (by decide +kernel)
set_option maxRecDepth 20000 in
theorem gX9_safe_X9_isSet : GoodIn wsX9_safe (wsV RX9 216 RX9 yX9_isSet wsX9_isSet) := goodIn_app (goodIn_of _ (by decide +kernel)) ggX9_safe_X9_isSet
set_option maxRecDepth 20000 in
theorem ggX9_safe_X9_lacksTalk : GoodIn wsX9_safe wsX9_lacksTalk := goodIn_r _ [14, 15, 16, 17, 18, 5, 19, 20, 21, 62, 63, 64, 65, 66, 67, 68, 69, 70, 71, 72, 73, 74, 75, 76, 77, 78, 79, 80, 81, 82, 83, 84, 85, 86, 87, 88, 89, 90, 91, 92, 93, 94, 95, 96, 97] (by decide +kernel) (by decide +kernel)
set_option maxRecDepth 20000 in
theorem gX9_safe_X9_lacksTalk : GoodIn wsX9_safe (wsV RX9 221 RX9 yX9_lacksTalk wsX9_lacksTalk) := goodIn_app (goodIn_of _ (by decide +kernel)) ggX9_safe_X9_lacksTalk
set_option maxRecDepth 20000 in
theorem ggX9_safe_X9_isSafe : GoodIn wsX9_safe wsX9_isSafe := goodIn_r _ [25, 1, 26, 27, 28, 5, 29, 7, 30, 31, 32, 33, 34, 35, 36, 37, 38, 39, 40, 41, 42, 43, 44, 45, 46, 47, 48, 49, 50, 51, 52, 53, 54, 55, 56, 62, 63, 64, 65, 66, 67, 68, 69, 70, 71, 72, 73, 74, 75, 76, 77, 78, 79, 80, 81, 82, 83, 84, 85, 86, 87, 88, 89, 90, 91, 92, 93, 94, 95, 96, 97] (by decide +kernel) (by decide +kernel)
set_option maxRecDepth 20000 in
theorem gX9_safe_X9_isSafe : GoodIn wsX9_safe (wsV RX9 224 RX9 yX9_isSafe wsX9_isSafe) := goodIn_app (goodIn_of _ (by decide +kernel)) ggX9_safe_X9_isSafe
set_option maxRecDepth 20000 in
theorem ggX9_safe_X9_heardBy : GoodIn wsX9_safe wsX9_heardBy := goodIn_r _ [29, 7, 30, 31, 32, 33, 5, 34, 35, 36, 37, 38, 39, 40, 41, 42, 43, 44, 45, 46, 47, 48, 49, 50, 51, 52, 53, 54, 55, 56, 62, 63, 64, 65, 66, 67, 68, 69, 70, 71, 72, 73, 74, 75, 76, 77, 78, 79, 80, 81, 82, 83, 84, 85, 86, 87, 88, 89, 90, 91, 92, 93, 94, 95, 96, 97] (by decide +kernel) (by decide +kernel)
set_option maxRecDepth 20000 in
theorem gX9_safe_X9_heardBy : GoodIn wsX9_safe (wsV RX9 185 RX9 yX9_heardBy wsX9_heardBy) := goodIn_app (goodIn_of _ (by decide +kernel)) ggX9_safe_X9_heardBy
set_option maxRecDepth 20000 in
theorem ggX9_safe_X9_say : GoodIn wsX9_safe wsX9_say := goodIn_r _ [60, 61, 62, 63, 64, 65, 66, 67, 68, 69, 70, 71, 72, 73, 74, 75, 76, 77, 78, 79, 80, 81, 82, 83, 84, 85, 86, 87, 88, 89, 90, 91, 92, 93, 94, 95, 96, 97] (by decide +kernel) (by decide +kernel)
set_option maxRecDepth 20000 in
theorem gX9_safe_X9_say : GoodIn wsX9_safe (wsV RX9 116 RX9 yX9_say wsX9_say) := goodIn_app (goodIn_of _ (by decide +kernel)) ggX9_safe_X9_say
theorem dX9_safe_0 : decode cX9_safe 0 = .ok (.iload_n 1, 1) := by decide +kernel
theorem dX9_safe_1 : decode cX9_safe 1 = .ok (.ifCond .lt 11, 3) := by decide +kernel
theorem dX9_safe_4 : decode cX9_safe 4 = .ok (.aload_n 0, 1) := by decide +kernel
theorem dX9_safe_5 : decode cX9_safe 5 = .ok (.iload_n 2, 1) := by decide +kernel
theorem dX9_safe_6 : decode cX9_safe 6 = .ok (.invokevirtual 216, 3) := by decide +kernel
theorem dX9_safe_9 : decode cX9_safe 9 = .ok (.ifCond .ne 5, 3) := by decide +kernel
theorem dX9_safe_12 : decode cX9_safe 12 = .ok (.iconst (-1), 1) := by decide +kernel
theorem dX9_safe_13 : decode cX9_safe 13 = .ok (.ireturn, 1) := by decide +kernel
theorem dX9_safe_14 : decode cX9_safe 14 = .ok (.aload_n 0, 1) := by decide +kernel
theorem dX9_safe_15 : decode cX9_safe 15 = .ok (.iload_n 1, 1) := by decide +kernel
theorem dX9_safe_16 : decode cX9_safe 16 = .ok (.invokevirtual 221, 3) := by decide +kernel
theorem dX9_safe_19 : decode cX9_safe 19 = .ok (.istore_n 3, 1) := by decide +kernel
theorem dX9_safe_20 : decode cX9_safe 20 = .ok (.iload_n 3, 1) := by decide +kernel
theorem dX9_safe_21 : decode cX9_safe 21 = .ok (.ifCond .ge 7, 3) := by decide +kernel
theorem dX9_safe_24 : decode cX9_safe 24 = .ok (.iload_n 3, 1) := by decide +kernel
theorem dX9_safe_25 : decode cX9_safe 25 = .ok (.goto 45, 3) := by decide +kernel
theorem dX9_safe_28 : decode cX9_safe 28 = .ok (.aload_n 0, 1) := by decide +kernel
theorem dX9_safe_29 : decode cX9_safe 29 = .ok (.aload_n 0, 1) := by decide +kernel
theorem dX9_safe_30 : decode cX9_safe 30 = .ok (.iload_n 1, 1) := by decide +kernel
theorem dX9_safe_31 : decode cX9_safe 31 = .ok (.iload_n 2, 1) := by decide +kernel
theorem dX9_safe_32 : decode cX9_safe 32 = .ok (.invokevirtual 224, 3) := by decide +kernel
theorem dX9_safe_35 : decode cX9_safe 35 = .ok (.ifCond .eq 7, 3) := by decide +kernel
theorem dX9_safe_38 : decode cX9_safe 38 = .ok (.iconst 1, 1) := by decide +kernel
theorem dX9_safe_39 : decode cX9_safe 39 = .ok (.goto 4, 3) := by decide +kernel
theorem dX9_safe_42 : decode cX9_safe 42 = .ok (.iconst 0, 1) := by decide +kernel
theorem dX9_safe_43 : decode cX9_safe 43 = .ok (.aload_n 0, 1) := by decide +kernel
theorem dX9_safe_44 : decode cX9_safe 44 = .ok (.aload_n 0, 1) := by decide +kernel
theorem dX9_safe_45 : decode cX9_safe 45 = .ok (.getfield 31, 3) := by decide +kernel
theorem dX9_safe_48 : decode cX9_safe 48 = .ok (.iconst 3, 1) := by decide +kernel
theorem dX9_safe_49 : decode cX9_safe 49 = .ok (.iload_n 1, 1) := by decide +kernel
theorem dX9_safe_50 : decode cX9_safe 50 = .ok (.imul, 1) := by decide +kernel
theorem dX9_safe_51 : decode cX9_safe 51 = .ok (.iaload, 1) := by decide +kernel
theorem dX9_safe_52 : decode cX9_safe 52 = .ok (.iload_n 2, 1) := by decide +kernel
theorem dX9_safe_53 : decode cX9_safe 53 = .ok (.invokevirtual 185, 3) := by decide +kernel
theorem dX9_safe_56 : decode cX9_safe 56 = .ok (.aload_n 0, 1) := by decide +kernel
theorem dX9_safe_57 : decode cX9_safe 57 = .ok (.getfield 31, 3) := by decide +kernel
theorem dX9_safe_60 : decode cX9_safe 60 = .ok (.iconst 3, 1) := by decide +kernel
theorem dX9_safe_61 : decode cX9_safe 61 = .ok (.iload_n 1, 1) := by decide +kernel
theorem dX9_safe_62 : decode cX9_safe 62 = .ok (.imul, 1) := by decide +kernel
theorem dX9_safe_63 : decode cX9_safe 63 = .ok (.iconst 2, 1) := by decide +kernel
theorem dX9_safe_64 : decode cX9_safe 64 = .ok (.iadd, 1) := by decide +kernel
theorem dX9_safe_65 : decode cX9_safe 65 = .ok (.iaload, 1) := by decide +kernel
theorem dX9_safe_66 : decode cX9_safe 66 = .ok (.iand, 1) := by decide +kernel
theorem dX9_safe_67 : decode cX9_safe 67 = .ok (.invokevirtual 116, 3) := by decide +kernel
theorem dX9_safe_70 : decode cX9_safe 70 = .ok (.ireturn, 1) := by decide +kernel
set_option maxRecDepth 20000 in
theorem ggX9_cover_X9_lacksTalk : GoodIn wsX9_cover wsX9_lacksTalk := goodIn_r _ [6, 7, 8, 9, 10, 5, 11, 12, 13, 58, 59, 60, 61, 62, 63, 64, 65, 66, 67, 68, 69, 70, 71, 72, 73, 74, 75, 76, 77, 78, 79, 80, 81, 82, 83, 84, 85, 86, 87, 88, 89, 90, 91, 92, 93] (by decide +kernel) (by decide +kernel)
set_option maxRecDepth 20000 in
theorem gX9_cover_X9_lacksTalk : GoodIn wsX9_cover (wsV RX9 221 RX9 yX9_lacksTalk wsX9_lacksTalk) := goodIn_app (goodIn_of _ (by decide +kernel)) ggX9_cover_X9_lacksTalk
set_option maxRecDepth 20000 in
theorem ggX9_cover_X9_ones : GoodIn wsX9_cover wsX9_ones := goodIn_r _ [16] (by decide +kernel) (by decide +kernel)
set_option maxRecDepth 20000 in
theorem gX9_cover_X9_ones : GoodIn wsX9_cover (va_wsS RX9 202 yX9_ones wsX9_ones) := goodIn_app (goodIn_of _ (by decide +kernel)) ggX9_cover_X9_ones
set_option maxRecDepth 20000 in
theorem ggX9_cover_X9_isSafe : GoodIn wsX9_cover wsX9_isSafe := goodIn_r _ [20, 21, 22, 23, 24, 5, 25, 1, 26, 27, 28, 29, 30, 31, 32, 33, 34, 35, 36, 37, 38, 39, 40, 41, 42, 43, 44, 45, 46, 47, 48, 49, 50, 51, 52, 58, 59, 60, 61, 62, 63, 64, 65, 66, 67, 68, 69, 70, 71, 72, 73, 74, 75, 76, 77, 78, 79, 80, 81, 82, 83, 84, 85, 86, 87, 88, 89, 90, 91, 92, 93] (by decide +kernel) (by decide +kernel)
set_option maxRecDepth 20000 in
theorem gX9_cover_X9_isSafe : GoodIn wsX9_cover (wsV RX9 224 RX9 yX9_isSafe wsX9_isSafe) := goodIn_app (goodIn_of _ (by decide +kernel)) ggX9_cover_X9_isSafe
set_option maxRecDepth 20000 in
theorem ggX9_cover_X9_say : GoodIn wsX9_cover wsX9_say := goodIn_r _ [56, 57, 58, 59, 60, 61, 62, 63, 64, 65, 66, 67, 68, 69, 70, 71, 72, 73, 74, 75, 76, 77, 78, 79, 80, 81, 82, 83, 84, 85, 86, 87, 88, 89, 90, 91, 92, 93] (by decide +kernel) (by decide +kernel)
set_option maxRecDepth 20000 in
theorem gX9_cover_X9_say : GoodIn wsX9_cover (wsV RX9 116 RX9 yX9_say wsX9_say) := goodIn_app (goodIn_of _ (by decide +kernel)) ggX9_cover_X9_say
theorem dX9_cover_0 : decode cX9_cover 0 = .ok (.aload_n 0, 1) := by decide +kernel
theorem dX9_cover_1 : decode cX9_cover 1 = .ok (.iload_n 1, 1) := by decide +kernel
theorem dX9_cover_2 : decode cX9_cover 2 = .ok (.invokevirtual 221, 3) := by decide +kernel
theorem dX9_cover_5 : decode cX9_cover 5 = .ok (.istore_n 2, 1) := by decide +kernel
theorem dX9_cover_6 : decode cX9_cover 6 = .ok (.iload_n 2, 1) := by decide +kernel
theorem dX9_cover_7 : decode cX9_cover 7 = .ok (.ifCond .ge 5, 3) := by decide +kernel
theorem dX9_cover_10 : decode cX9_cover 10 = .ok (.iload_n 2, 1) := by decide +kernel
theorem dX9_cover_11 : decode cX9_cover 11 = .ok (.ireturn, 1) := by decide +kernel
theorem dX9_cover_12 : decode cX9_cover 12 = .ok (.bipush (-9), 2) := by decide +kernel
theorem dX9_cover_14 : decode cX9_cover 14 = .ok (.istore_n 3, 1) := by decide +kernel
theorem dX9_cover_15 : decode cX9_cover 15 = .ok (.iconst 0, 1) := by decide +kernel
theorem dX9_cover_16 : decode cX9_cover 16 = .ok (.istore 4, 2) := by decide +kernel
theorem dX9_cover_18 : decode cX9_cover 18 = .ok (.iload 4, 2) := by decide +kernel
theorem dX9_cover_20 : decode cX9_cover 20 = .ok (.iconst 1, 1) := by decide +kernel
theorem dX9_cover_21 : decode cX9_cover 21 = .ok (.aload_n 0, 1) := by decide +kernel
theorem dX9_cover_22 : decode cX9_cover 22 = .ok (.getfield 153, 3) := by decide +kernel
theorem dX9_cover_25 : decode cX9_cover 25 = .ok (.ishl, 1) := by decide +kernel
theorem dX9_cover_26 : decode cX9_cover 26 = .ok (.if_icmp .ge 56, 3) := by decide +kernel
theorem dX9_cover_29 : decode cX9_cover 29 = .ok (.iload_n 3, 1) := by decide +kernel
theorem dX9_cover_30 : decode cX9_cover 30 = .ok (.bipush (-9), 2) := by decide +kernel
theorem dX9_cover_32 : decode cX9_cover 32 = .ok (.if_icmp .eq 15, 3) := by decide +kernel
theorem dX9_cover_35 : decode cX9_cover 35 = .ok (.iload 4, 2) := by decide +kernel
theorem dX9_cover_37 : decode cX9_cover 37 = .ok (.invokestatic 202, 3) := by decide +kernel
theorem dX9_cover_40 : decode cX9_cover 40 = .ok (.iload_n 3, 1) := by decide +kernel
theorem dX9_cover_41 : decode cX9_cover 41 = .ok (.invokestatic 202, 3) := by decide +kernel
theorem dX9_cover_44 : decode cX9_cover 44 = .ok (.if_icmp .ge 7, 3) := by decide +kernel
theorem dX9_cover_47 : decode cX9_cover 47 = .ok (.iconst 1, 1) := by decide +kernel
theorem dX9_cover_48 : decode cX9_cover 48 = .ok (.goto 4, 3) := by decide +kernel
theorem dX9_cover_51 : decode cX9_cover 51 = .ok (.iconst 0, 1) := by decide +kernel
theorem dX9_cover_52 : decode cX9_cover 52 = .ok (.istore 5, 2) := by decide +kernel
theorem dX9_cover_54 : decode cX9_cover 54 = .ok (.iload 5, 2) := by decide +kernel
theorem dX9_cover_56 : decode cX9_cover 56 = .ok (.ifCond .eq 18, 3) := by decide +kernel
theorem dX9_cover_59 : decode cX9_cover 59 = .ok (.aload_n 0, 1) := by decide +kernel
theorem dX9_cover_60 : decode cX9_cover 60 = .ok (.iload_n 1, 1) := by decide +kernel
theorem dX9_cover_61 : decode cX9_cover 61 = .ok (.iload 4, 2) := by decide +kernel
theorem dX9_cover_63 : decode cX9_cover 63 = .ok (.invokevirtual 224, 3) := by decide +kernel
theorem dX9_cover_66 : decode cX9_cover 66 = .ok (.ifCond .eq 8, 3) := by decide +kernel
theorem dX9_cover_69 : decode cX9_cover 69 = .ok (.iload 4, 2) := by decide +kernel
theorem dX9_cover_71 : decode cX9_cover 71 = .ok (.goto 4, 3) := by decide +kernel
theorem dX9_cover_74 : decode cX9_cover 74 = .ok (.iload_n 3, 1) := by decide +kernel
theorem dX9_cover_75 : decode cX9_cover 75 = .ok (.istore_n 3, 1) := by decide +kernel
theorem dX9_cover_76 : decode cX9_cover 76 = .ok (.iinc 4 1, 3) := by decide +kernel
theorem dX9_cover_79 : decode cX9_cover 79 = .ok (.goto (-61), 3) := by decide +kernel
theorem dX9_cover_82 : decode cX9_cover 82 = .ok (.iload_n 3, 1) := by decide +kernel
theorem dX9_cover_83 : decode cX9_cover 83 = .ok (.bipush (-9), 2) := by decide +kernel
theorem dX9_cover_85 : decode cX9_cover 85 = .ok (.if_icmp .ne 8, 3) := by decide +kernel
theorem dX9_cover_88 : decode cX9_cover 88 = .ok (.bipush (-9), 2) := by decide +kernel
theorem dX9_cover_90 : decode cX9_cover 90 = .ok (.goto 12, 3) := by decide +kernel
theorem dX9_cover_93 : decode cX9_cover 93 = .ok (.aload_n 0, 1) := by decide +kernel
theorem dX9_cover_94 : decode cX9_cover 94 = .ok (.iload_n 3, 1) := by decide +kernel
theorem dX9_cover_95 : decode cX9_cover 95 = .ok (.invokestatic 202, 3) := by decide +kernel
theorem dX9_cover_98 : decode cX9_cover 98 = .ok (.iload_n 3, 1) := by decide +kernel
theorem dX9_cover_99 : decode cX9_cover 99 = .ok (.invokevirtual 116, 3) := by decide +kernel
theorem dX9_cover_102 : decode cX9_cover 102 = .ok (.ireturn, 1) := by decide +kernel
set_option maxRecDepth 20000 in
theorem ggX9_noiseOf_X9_has : GoodIn wsX9_noiseOf wsX9_has := goodIn_r _ [6] (by decide +kernel) (by decide +kernel)
set_option maxRecDepth 20000 in
theorem gX9_noiseOf_X9_has : GoodIn wsX9_noiseOf (va_wsS RX9 165 yX9_has wsX9_has) := goodIn_app (goodIn_of _ (by decide +kernel)) ggX9_noiseOf_X9_has
set_option maxRecDepth 20000 in
theorem ggX9_noiseOf_X9_comesTo : GoodIn wsX9_noiseOf wsX9_comesTo := goodIn_r _ [10, 11, 12, 13, 14, 5, 15, 16, 17, 18, 19, 20, 21, 22, 23, 24, 25, 26, 27, 28, 29, 30, 31, 32, 33, 34, 35, 36, 37, 38, 39, 40, 41, 42, 43, 44, 45, 46, 47, 48, 49, 50, 51, 52, 53, 54, 55, 56] (by decide +kernel) (by decide +kernel)
set_option maxRecDepth 20000 in
theorem gX9_noiseOf_X9_comesTo : GoodIn wsX9_noiseOf (wsV RX9 175 RX9 yX9_comesTo wsX9_comesTo) := goodIn_app (goodIn_of _ (by decide +kernel)) ggX9_noiseOf_X9_comesTo
theorem dX9_noiseOf_0 : decode cX9_noiseOf 0 = .ok (.iconst 0, 1) := by decide +kernel
theorem dX9_noiseOf_1 : decode cX9_noiseOf 1 = .ok (.istore 4, 2) := by decide +kernel
theorem dX9_noiseOf_3 : decode cX9_noiseOf 3 = .ok (.iconst 0, 1) := by decide +kernel
theorem dX9_noiseOf_4 : decode cX9_noiseOf 4 = .ok (.istore 5, 2) := by decide +kernel
theorem dX9_noiseOf_6 : decode cX9_noiseOf 6 = .ok (.iload 5, 2) := by decide +kernel
theorem dX9_noiseOf_8 : decode cX9_noiseOf 8 = .ok (.aload_n 0, 1) := by decide +kernel
theorem dX9_noiseOf_9 : decode cX9_noiseOf 9 = .ok (.getfield 156, 3) := by decide +kernel
theorem dX9_noiseOf_12 : decode cX9_noiseOf 12 = .ok (.if_icmp .ge 60, 3) := by decide +kernel
theorem dX9_noiseOf_15 : decode cX9_noiseOf 15 = .ok (.iload_n 2, 1) := by decide +kernel
theorem dX9_noiseOf_16 : decode cX9_noiseOf 16 = .ok (.iload 5, 2) := by decide +kernel
theorem dX9_noiseOf_18 : decode cX9_noiseOf 18 = .ok (.invokestatic 165, 3) := by decide +kernel
theorem dX9_noiseOf_21 : decode cX9_noiseOf 21 = .ok (.ifCond .eq 26, 3) := by decide +kernel
theorem dX9_noiseOf_24 : decode cX9_noiseOf 24 = .ok (.iload 5, 2) := by decide +kernel
theorem dX9_noiseOf_26 : decode cX9_noiseOf 26 = .ok (.iload_n 3, 1) := by decide +kernel
theorem dX9_noiseOf_27 : decode cX9_noiseOf 27 = .ok (.if_icmp .eq 20, 3) := by decide +kernel
theorem dX9_noiseOf_30 : decode cX9_noiseOf 30 = .ok (.aload_n 0, 1) := by decide +kernel
theorem dX9_noiseOf_31 : decode cX9_noiseOf 31 = .ok (.iload_n 1, 1) := by decide +kernel
theorem dX9_noiseOf_32 : decode cX9_noiseOf 32 = .ok (.aload_n 0, 1) := by decide +kernel
theorem dX9_noiseOf_33 : decode cX9_noiseOf 33 = .ok (.getfield 31, 3) := by decide +kernel
theorem dX9_noiseOf_36 : decode cX9_noiseOf 36 = .ok (.iconst 3, 1) := by decide +kernel
theorem dX9_noiseOf_37 : decode cX9_noiseOf 37 = .ok (.iload 5, 2) := by decide +kernel
theorem dX9_noiseOf_39 : decode cX9_noiseOf 39 = .ok (.imul, 1) := by decide +kernel
theorem dX9_noiseOf_40 : decode cX9_noiseOf 40 = .ok (.iaload, 1) := by decide +kernel
theorem dX9_noiseOf_41 : decode cX9_noiseOf 41 = .ok (.invokevirtual 175, 3) := by decide +kernel
theorem dX9_noiseOf_44 : decode cX9_noiseOf 44 = .ok (.goto 4, 3) := by decide +kernel
theorem dX9_noiseOf_47 : decode cX9_noiseOf 47 = .ok (.iconst 0, 1) := by decide +kernel
theorem dX9_noiseOf_48 : decode cX9_noiseOf 48 = .ok (.istore 6, 2) := by decide +kernel
theorem dX9_noiseOf_50 : decode cX9_noiseOf 50 = .ok (.iload 6, 2) := by decide +kernel
theorem dX9_noiseOf_52 : decode cX9_noiseOf 52 = .ok (.iload 4, 2) := by decide +kernel
theorem dX9_noiseOf_54 : decode cX9_noiseOf 54 = .ok (.if_icmp .le 8, 3) := by decide +kernel
theorem dX9_noiseOf_57 : decode cX9_noiseOf 57 = .ok (.iload 6, 2) := by decide +kernel
theorem dX9_noiseOf_59 : decode cX9_noiseOf 59 = .ok (.goto 5, 3) := by decide +kernel
theorem dX9_noiseOf_62 : decode cX9_noiseOf 62 = .ok (.iload 4, 2) := by decide +kernel
theorem dX9_noiseOf_64 : decode cX9_noiseOf 64 = .ok (.istore 4, 2) := by decide +kernel
theorem dX9_noiseOf_66 : decode cX9_noiseOf 66 = .ok (.iinc 5 1, 3) := by decide +kernel
theorem dX9_noiseOf_69 : decode cX9_noiseOf 69 = .ok (.goto (-63), 3) := by decide +kernel
theorem dX9_noiseOf_72 : decode cX9_noiseOf 72 = .ok (.iload 4, 2) := by decide +kernel
theorem dX9_noiseOf_74 : decode cX9_noiseOf 74 = .ok (.ireturn, 1) := by decide +kernel
set_option maxRecDepth 20000 in
theorem ggX9_areBeside_X9_has : GoodIn wsX9_areBeside wsX9_has := goodIn_r _ [9] (by decide +kernel) (by decide +kernel)
set_option maxRecDepth 20000 in
theorem gX9_areBeside_X9_has : GoodIn wsX9_areBeside (va_wsS RX9 165 yX9_has wsX9_has) := goodIn_app (goodIn_of _ (by decide +kernel)) ggX9_areBeside_X9_has
set_option maxRecDepth 20000 in
theorem ggX9_areBeside_X9_comesTo : GoodIn wsX9_areBeside wsX9_comesTo := goodIn_r _ [13, 4, 5, 14, 15, 8, 16, 17, 18, 19, 20, 21, 29, 30, 31, 32, 33, 34, 35, 36, 37, 38, 39, 40, 41, 42, 43, 44, 45, 46, 47, 48, 49, 50, 51, 52, 53, 54, 55, 56, 57, 58, 59, 60, 61, 62, 63, 64] (by decide +kernel) (by decide +kernel)
set_option maxRecDepth 20000 in
theorem gX9_areBeside_X9_comesTo : GoodIn wsX9_areBeside (wsV RX9 175 RX9 yX9_comesTo wsX9_comesTo) := goodIn_app (goodIn_of _ (by decide +kernel)) ggX9_areBeside_X9_comesTo
set_option maxRecDepth 20000 in
theorem ggX9_areBeside_X9_noiseOf : GoodIn wsX9_areBeside wsX9_noiseOf := goodIn_r _ [25, 1, 2, 6, 7, 8, 9, 10, 11, 12, 13, 4, 5, 14, 15, 16, 17, 18, 19, 20, 21, 29, 30, 31, 32, 33, 34, 35, 36, 37, 38, 39, 40, 41, 42, 43, 44, 45, 46, 47, 48, 49, 50, 51, 52, 53, 54, 55, 56, 57, 58, 59, 60, 61, 62, 63, 64] (by decide +kernel) (by decide +kernel)
set_option maxRecDepth 20000 in
theorem gX9_areBeside_X9_noiseOf : GoodIn wsX9_areBeside (wsV RX9 227 RX9 yX9_noiseOf wsX9_noiseOf) := goodIn_app (goodIn_of _ (by decide +kernel)) ggX9_areBeside_X9_noiseOf
set_option maxRecDepth 20000 in
theorem ggX9_areBeside_X9_isHeard : GoodIn wsX9_areBeside wsX9_isHeard := goodIn_r _ [28] (by decide +kernel) (by decide +kernel)
set_option maxRecDepth 20000 in
theorem gX9_areBeside_X9_isHeard : GoodIn wsX9_areBeside (va_wsS RX9 181 yX9_isHeard wsX9_isHeard) := goodIn_app (goodIn_of _ (by decide +kernel)) ggX9_areBeside_X9_isHeard
theorem dX9_areBeside_0 : decode cX9_areBeside 0 = .ok (.iconst 0, 1) := by decide +kernel
theorem dX9_areBeside_1 : decode cX9_areBeside 1 = .ok (.istore_n 2, 1) := by decide +kernel
theorem dX9_areBeside_2 : decode cX9_areBeside 2 = .ok (.iconst 1, 1) := by decide +kernel
theorem dX9_areBeside_3 : decode cX9_areBeside 3 = .ok (.istore_n 3, 1) := by decide +kernel
theorem dX9_areBeside_4 : decode cX9_areBeside 4 = .ok (.iconst 0, 1) := by decide +kernel
theorem dX9_areBeside_5 : decode cX9_areBeside 5 = .ok (.istore 4, 2) := by decide +kernel
theorem dX9_areBeside_7 : decode cX9_areBeside 7 = .ok (.iload 4, 2) := by decide +kernel
theorem dX9_areBeside_9 : decode cX9_areBeside 9 = .ok (.aload_n 0, 1) := by decide +kernel
theorem dX9_areBeside_10 : decode cX9_areBeside 10 = .ok (.getfield 156, 3) := by decide +kernel
theorem dX9_areBeside_13 : decode cX9_areBeside 13 = .ok (.if_icmp .ge 200, 3) := by decide +kernel
theorem dX9_areBeside_16 : decode cX9_areBeside 16 = .ok (.iload_n 3, 1) := by decide +kernel
theorem dX9_areBeside_17 : decode cX9_areBeside 17 = .ok (.ifCond .eq 196, 3) := by decide +kernel
theorem dX9_areBeside_20 : decode cX9_areBeside 20 = .ok (.iload_n 1, 1) := by decide +kernel
theorem dX9_areBeside_21 : decode cX9_areBeside 21 = .ok (.iload 4, 2) := by decide +kernel
theorem dX9_areBeside_23 : decode cX9_areBeside 23 = .ok (.invokestatic 165, 3) := by decide +kernel
theorem dX9_areBeside_26 : decode cX9_areBeside 26 = .ok (.ifCond .eq 181, 3) := by decide +kernel
theorem dX9_areBeside_29 : decode cX9_areBeside 29 = .ok (.aload_n 0, 1) := by decide +kernel
theorem dX9_areBeside_30 : decode cX9_areBeside 30 = .ok (.getfield 31, 3) := by decide +kernel
theorem dX9_areBeside_33 : decode cX9_areBeside 33 = .ok (.iconst 3, 1) := by decide +kernel
theorem dX9_areBeside_34 : decode cX9_areBeside 34 = .ok (.iload 4, 2) := by decide +kernel
theorem dX9_areBeside_36 : decode cX9_areBeside 36 = .ok (.imul, 1) := by decide +kernel
theorem dX9_areBeside_37 : decode cX9_areBeside 37 = .ok (.iaload, 1) := by decide +kernel
theorem dX9_areBeside_38 : decode cX9_areBeside 38 = .ok (.istore 5, 2) := by decide +kernel
theorem dX9_areBeside_40 : decode cX9_areBeside 40 = .ok (.aload_n 0, 1) := by decide +kernel
theorem dX9_areBeside_41 : decode cX9_areBeside 41 = .ok (.getfield 31, 3) := by decide +kernel
theorem dX9_areBeside_44 : decode cX9_areBeside 44 = .ok (.iconst 3, 1) := by decide +kernel
theorem dX9_areBeside_45 : decode cX9_areBeside 45 = .ok (.iload 4, 2) := by decide +kernel
theorem dX9_areBeside_47 : decode cX9_areBeside 47 = .ok (.imul, 1) := by decide +kernel
theorem dX9_areBeside_48 : decode cX9_areBeside 48 = .ok (.iconst 1, 1) := by decide +kernel
theorem dX9_areBeside_49 : decode cX9_areBeside 49 = .ok (.iadd, 1) := by decide +kernel
theorem dX9_areBeside_50 : decode cX9_areBeside 50 = .ok (.iaload, 1) := by decide +kernel
theorem dX9_areBeside_51 : decode cX9_areBeside 51 = .ok (.istore 6, 2) := by decide +kernel
theorem dX9_areBeside_53 : decode cX9_areBeside 53 = .ok (.iload_n 2, 1) := by decide +kernel
theorem dX9_areBeside_54 : decode cX9_areBeside 54 = .ok (.iload 5, 2) := by decide +kernel
theorem dX9_areBeside_56 : decode cX9_areBeside 56 = .ok (.invokestatic 165, 3) := by decide +kernel
theorem dX9_areBeside_59 : decode cX9_areBeside 59 = .ok (.ifCond .ne 16, 3) := by decide +kernel
theorem dX9_areBeside_62 : decode cX9_areBeside 62 = .ok (.iload_n 2, 1) := by decide +kernel
theorem dX9_areBeside_63 : decode cX9_areBeside 63 = .ok (.iload 6, 2) := by decide +kernel
theorem dX9_areBeside_65 : decode cX9_areBeside 65 = .ok (.invokestatic 165, 3) := by decide +kernel
theorem dX9_areBeside_68 : decode cX9_areBeside 68 = .ok (.ifCond .ne 7, 3) := by decide +kernel
theorem dX9_areBeside_71 : decode cX9_areBeside 71 = .ok (.iconst 1, 1) := by decide +kernel
theorem dX9_areBeside_72 : decode cX9_areBeside 72 = .ok (.goto 4, 3) := by decide +kernel
theorem dX9_areBeside_75 : decode cX9_areBeside 75 = .ok (.iconst 0, 1) := by decide +kernel
theorem dX9_areBeside_76 : decode cX9_areBeside 76 = .ok (.istore_n 3, 1) := by decide +kernel
theorem dX9_areBeside_77 : decode cX9_areBeside 77 = .ok (.iload_n 2, 1) := by decide +kernel
theorem dX9_areBeside_78 : decode cX9_areBeside 78 = .ok (.iconst 1, 1) := by decide +kernel
theorem dX9_areBeside_79 : decode cX9_areBeside 79 = .ok (.iload 5, 2) := by decide +kernel
theorem dX9_areBeside_81 : decode cX9_areBeside 81 = .ok (.ishl, 1) := by decide +kernel
theorem dX9_areBeside_82 : decode cX9_areBeside 82 = .ok (.iconst 1, 1) := by decide +kernel
theorem dX9_areBeside_83 : decode cX9_areBeside 83 = .ok (.iload 6, 2) := by decide +kernel
theorem dX9_areBeside_85 : decode cX9_areBeside 85 = .ok (.ishl, 1) := by decide +kernel
theorem dX9_areBeside_86 : decode cX9_areBeside 86 = .ok (.ior, 1) := by decide +kernel
theorem dX9_areBeside_87 : decode cX9_areBeside 87 = .ok (.ior, 1) := by decide +kernel
theorem dX9_areBeside_88 : decode cX9_areBeside 88 = .ok (.istore_n 2, 1) := by decide +kernel
theorem dX9_areBeside_89 : decode cX9_areBeside 89 = .ok (.iconst 0, 1) := by decide +kernel
theorem dX9_areBeside_90 : decode cX9_areBeside 90 = .ok (.istore 7, 2) := by decide +kernel
theorem dX9_areBeside_92 : decode cX9_areBeside 92 = .ok (.iload 7, 2) := by decide +kernel
theorem dX9_areBeside_94 : decode cX9_areBeside 94 = .ok (.aload_n 0, 1) := by decide +kernel
theorem dX9_areBeside_95 : decode cX9_areBeside 95 = .ok (.getfield 153, 3) := by decide +kernel
theorem dX9_areBeside_98 : decode cX9_areBeside 98 = .ok (.if_icmp .ge 109, 3) := by decide +kernel
theorem dX9_areBeside_101 : decode cX9_areBeside 101 = .ok (.iload_n 3, 1) := by decide +kernel
theorem dX9_areBeside_102 : decode cX9_areBeside 102 = .ok (.ifCond .eq 105, 3) := by decide +kernel
theorem dX9_areBeside_105 : decode cX9_areBeside 105 = .ok (.iload 7, 2) := by decide +kernel
theorem dX9_areBeside_107 : decode cX9_areBeside 107 = .ok (.iload 5, 2) := by decide +kernel
theorem dX9_areBeside_109 : decode cX9_areBeside 109 = .ok (.if_icmp .eq 47, 3) := by decide +kernel
theorem dX9_areBeside_112 : decode cX9_areBeside 112 = .ok (.aload_n 0, 1) := by decide +kernel
theorem dX9_areBeside_113 : decode cX9_areBeside 113 = .ok (.getfield 22, 3) := by decide +kernel
theorem dX9_areBeside_116 : decode cX9_areBeside 116 = .ok (.iload 7, 2) := by decide +kernel
theorem dX9_areBeside_118 : decode cX9_areBeside 118 = .ok (.iaload, 1) := by decide +kernel
theorem dX9_areBeside_119 : decode cX9_areBeside 119 = .ok (.aload_n 0, 1) := by decide +kernel
theorem dX9_areBeside_120 : decode cX9_areBeside 120 = .ok (.aload_n 0, 1) := by decide +kernel
theorem dX9_areBeside_121 : decode cX9_areBeside 121 = .ok (.getfield 25, 3) := by decide +kernel
theorem dX9_areBeside_124 : decode cX9_areBeside 124 = .ok (.iload 7, 2) := by decide +kernel
theorem dX9_areBeside_126 : decode cX9_areBeside 126 = .ok (.iaload, 1) := by decide +kernel
theorem dX9_areBeside_127 : decode cX9_areBeside 127 = .ok (.iload 5, 2) := by decide +kernel
theorem dX9_areBeside_129 : decode cX9_areBeside 129 = .ok (.invokevirtual 175, 3) := by decide +kernel
theorem dX9_areBeside_132 : decode cX9_areBeside 132 = .ok (.aload_n 0, 1) := by decide +kernel
theorem dX9_areBeside_133 : decode cX9_areBeside 133 = .ok (.aload_n 0, 1) := by decide +kernel
theorem dX9_areBeside_134 : decode cX9_areBeside 134 = .ok (.getfield 25, 3) := by decide +kernel
theorem dX9_areBeside_137 : decode cX9_areBeside 137 = .ok (.iload 7, 2) := by decide +kernel
theorem dX9_areBeside_139 : decode cX9_areBeside 139 = .ok (.iaload, 1) := by decide +kernel
theorem dX9_areBeside_140 : decode cX9_areBeside 140 = .ok (.iload_n 1, 1) := by decide +kernel
theorem dX9_areBeside_141 : decode cX9_areBeside 141 = .ok (.iload 4, 2) := by decide +kernel
theorem dX9_areBeside_143 : decode cX9_areBeside 143 = .ok (.invokevirtual 227, 3) := by decide +kernel
theorem dX9_areBeside_146 : decode cX9_areBeside 146 = .ok (.invokestatic 181, 3) := by decide +kernel
theorem dX9_areBeside_149 : decode cX9_areBeside 149 = .ok (.ifCond .eq 7, 3) := by decide +kernel
theorem dX9_areBeside_152 : decode cX9_areBeside 152 = .ok (.iconst 1, 1) := by decide +kernel
theorem dX9_areBeside_153 : decode cX9_areBeside 153 = .ok (.goto 4, 3) := by decide +kernel
theorem dX9_areBeside_156 : decode cX9_areBeside 156 = .ok (.iconst 0, 1) := by decide +kernel
theorem dX9_areBeside_157 : decode cX9_areBeside 157 = .ok (.istore 8, 2) := by decide +kernel
theorem dX9_areBeside_159 : decode cX9_areBeside 159 = .ok (.iload 7, 2) := by decide +kernel
theorem dX9_areBeside_161 : decode cX9_areBeside 161 = .ok (.iload 6, 2) := by decide +kernel
theorem dX9_areBeside_163 : decode cX9_areBeside 163 = .ok (.if_icmp .ne 8, 3) := by decide +kernel
theorem dX9_areBeside_166 : decode cX9_areBeside 166 = .ok (.iload 8, 2) := by decide +kernel
theorem dX9_areBeside_168 : decode cX9_areBeside 168 = .ok (.goto 32, 3) := by decide +kernel
theorem dX9_areBeside_171 : decode cX9_areBeside 171 = .ok (.iload 8, 2) := by decide +kernel
theorem dX9_areBeside_173 : decode cX9_areBeside 173 = .ok (.ifCond .eq 22, 3) := by decide +kernel
theorem dX9_areBeside_176 : decode cX9_areBeside 176 = .ok (.aload_n 0, 1) := by decide +kernel
theorem dX9_areBeside_177 : decode cX9_areBeside 177 = .ok (.getfield 31, 3) := by decide +kernel
theorem dX9_areBeside_180 : decode cX9_areBeside 180 = .ok (.iconst 3, 1) := by decide +kernel
theorem dX9_areBeside_181 : decode cX9_areBeside 181 = .ok (.iload 4, 2) := by decide +kernel
theorem dX9_areBeside_183 : decode cX9_areBeside 183 = .ok (.imul, 1) := by decide +kernel
theorem dX9_areBeside_184 : decode cX9_areBeside 184 = .ok (.iconst 2, 1) := by decide +kernel
theorem dX9_areBeside_185 : decode cX9_areBeside 185 = .ok (.iadd, 1) := by decide +kernel
theorem dX9_areBeside_186 : decode cX9_areBeside 186 = .ok (.iaload, 1) := by decide +kernel
theorem dX9_areBeside_187 : decode cX9_areBeside 187 = .ok (.iload 7, 2) := by decide +kernel
theorem dX9_areBeside_189 : decode cX9_areBeside 189 = .ok (.invokestatic 165, 3) := by decide +kernel
theorem dX9_areBeside_192 : decode cX9_areBeside 192 = .ok (.ifCond .ne 7, 3) := by decide +kernel
theorem dX9_areBeside_195 : decode cX9_areBeside 195 = .ok (.iconst 1, 1) := by decide +kernel
theorem dX9_areBeside_196 : decode cX9_areBeside 196 = .ok (.goto 4, 3) := by decide +kernel
theorem dX9_areBeside_199 : decode cX9_areBeside 199 = .ok (.iconst 0, 1) := by decide +kernel
theorem dX9_areBeside_200 : decode cX9_areBeside 200 = .ok (.istore_n 3, 1) := by decide +kernel
theorem dX9_areBeside_201 : decode cX9_areBeside 201 = .ok (.iinc 7 1, 3) := by decide +kernel
theorem dX9_areBeside_204 : decode cX9_areBeside 204 = .ok (.goto (-112), 3) := by decide +kernel
theorem dX9_areBeside_207 : decode cX9_areBeside 207 = .ok (.iinc 4 1, 3) := by decide +kernel
theorem dX9_areBeside_210 : decode cX9_areBeside 210 = .ok (.goto (-203), 3) := by decide +kernel
theorem dX9_areBeside_213 : decode cX9_areBeside 213 = .ok (.iload_n 3, 1) := by decide +kernel
theorem dX9_areBeside_214 : decode cX9_areBeside 214 = .ok (.ireturn, 1) := by decide +kernel
set_option maxRecDepth 20000 in
theorem ggX9_beside_X9_in : GoodIn wsX9_beside wsX9_in := goodIn_r _ [5] (by decide +kernel) (by decide +kernel)
set_option maxRecDepth 20000 in
theorem gX9_beside_X9_in : GoodIn wsX9_beside (va_wsS RX9 98 yX9_in wsX9_in) := goodIn_app (goodIn_of _ (by decide +kernel)) ggX9_beside_X9_in
set_option maxRecDepth 20000 in
theorem ggX9_beside_X9_areBeside : GoodIn wsX9_beside wsX9_areBeside := goodIn_r _ [9, 1, 10, 11, 12, 13, 14, 15, 4, 16, 17, 18, 19, 20, 21, 22, 23, 24, 25, 26, 27, 28, 29, 30, 31, 32, 33, 34, 35, 36, 37, 38, 39, 40, 41, 42, 43, 44, 45, 46, 47, 48, 49, 50, 51, 52, 53, 54, 55, 56, 57, 58, 59, 60, 61, 62, 63, 64, 65, 66, 67, 68, 69, 70, 71] (by decide +kernel) (by decide +kernel)
set_option maxRecDepth 20000 in
theorem gX9_beside_X9_areBeside : GoodIn wsX9_beside (wsV RX9 231 RX9 yX9_areBeside wsX9_areBeside) := goodIn_app (goodIn_of _ (by decide +kernel)) ggX9_beside_X9_areBeside
theorem dX9_beside_0 : decode cX9_beside 0 = .ok (.iload_n 1, 1) := by decide +kernel
theorem dX9_beside_1 : decode cX9_beside 1 = .ok (.i2l, 1) := by decide +kernel
theorem dX9_beside_2 : decode cX9_beside 2 = .ok (.lconst 0, 1) := by decide +kernel
theorem dX9_beside_3 : decode cX9_beside 3 = .ok (.iconst 1, 1) := by decide +kernel
theorem dX9_beside_4 : decode cX9_beside 4 = .ok (.aload_n 0, 1) := by decide +kernel
theorem dX9_beside_5 : decode cX9_beside 5 = .ok (.getfield 156, 3) := by decide +kernel
theorem dX9_beside_8 : decode cX9_beside 8 = .ok (.ishl, 1) := by decide +kernel
theorem dX9_beside_9 : decode cX9_beside 9 = .ok (.iconst 1, 1) := by decide +kernel
theorem dX9_beside_10 : decode cX9_beside 10 = .ok (.isub, 1) := by decide +kernel
theorem dX9_beside_11 : decode cX9_beside 11 = .ok (.i2l, 1) := by decide +kernel
theorem dX9_beside_12 : decode cX9_beside 12 = .ok (.invokestatic 98, 3) := by decide +kernel
theorem dX9_beside_15 : decode cX9_beside 15 = .ok (.ifCond .ne 7, 3) := by decide +kernel
theorem dX9_beside_18 : decode cX9_beside 18 = .ok (.iconst (-1), 1) := by decide +kernel
theorem dX9_beside_19 : decode cX9_beside 19 = .ok (.goto 16, 3) := by decide +kernel
theorem dX9_beside_22 : decode cX9_beside 22 = .ok (.aload_n 0, 1) := by decide +kernel
theorem dX9_beside_23 : decode cX9_beside 23 = .ok (.iload_n 1, 1) := by decide +kernel
theorem dX9_beside_24 : decode cX9_beside 24 = .ok (.invokevirtual 231, 3) := by decide +kernel
theorem dX9_beside_27 : decode cX9_beside 27 = .ok (.ifCond .eq 7, 3) := by decide +kernel
theorem dX9_beside_30 : decode cX9_beside 30 = .ok (.iconst 1, 1) := by decide +kernel
theorem dX9_beside_31 : decode cX9_beside 31 = .ok (.goto 4, 3) := by decide +kernel
theorem dX9_beside_34 : decode cX9_beside 34 = .ok (.iconst 0, 1) := by decide +kernel
theorem dX9_beside_35 : decode cX9_beside 35 = .ok (.ireturn, 1) := by decide +kernel
set_option maxRecDepth 20000 in
theorem ggX9_turns_X9_areBeside : GoodIn wsX9_turns wsX9_areBeside := goodIn_r _ [8, 1, 9, 10, 11, 12, 13, 14, 7, 15, 16, 17, 18, 19, 20, 21, 22, 23, 24, 25, 26, 27, 28, 29, 30, 31, 32, 33, 34, 40, 41, 42, 43, 44, 45, 46, 47, 48, 49, 50, 51, 52, 53, 54, 55, 56, 57, 58, 59, 60, 61, 62, 63, 64, 65, 66, 67, 68, 69, 70, 71, 72, 73, 74, 75] (by decide +kernel) (by decide +kernel)
set_option maxRecDepth 20000 in
theorem gX9_turns_X9_areBeside : GoodIn wsX9_turns (wsV RX9 231 RX9 yX9_areBeside wsX9_areBeside) := goodIn_app (goodIn_of _ (by decide +kernel)) ggX9_turns_X9_areBeside
set_option maxRecDepth 20000 in
theorem ggX9_turns_X9_has : GoodIn wsX9_turns wsX9_has := goodIn_r _ [15] (by decide +kernel) (by decide +kernel)
set_option maxRecDepth 20000 in
theorem gX9_turns_X9_has : GoodIn wsX9_turns (va_wsS RX9 165 yX9_has wsX9_has) := goodIn_app (goodIn_of _ (by decide +kernel)) ggX9_turns_X9_has
set_option maxRecDepth 20000 in
theorem ggX9_turns_X9_say : GoodIn wsX9_turns wsX9_say := goodIn_r _ [38, 39, 40, 41, 42, 43, 44, 45, 46, 47, 48, 49, 50, 51, 52, 53, 54, 55, 56, 57, 58, 59, 60, 61, 62, 63, 64, 65, 66, 67, 68, 69, 70, 71, 72, 73, 74, 75] (by decide +kernel) (by decide +kernel)
set_option maxRecDepth 20000 in
theorem gX9_turns_X9_say : GoodIn wsX9_turns (wsV RX9 116 RX9 yX9_say wsX9_say) := goodIn_app (goodIn_of _ (by decide +kernel)) ggX9_turns_X9_say
theorem dX9_turns_0 : decode cX9_turns 0 = .ok (.iconst 1, 1) := by decide +kernel
theorem dX9_turns_1 : decode cX9_turns 1 = .ok (.aload_n 0, 1) := by decide +kernel
theorem dX9_turns_2 : decode cX9_turns 2 = .ok (.getfield 156, 3) := by decide +kernel
theorem dX9_turns_5 : decode cX9_turns 5 = .ok (.ishl, 1) := by decide +kernel
theorem dX9_turns_6 : decode cX9_turns 6 = .ok (.iconst 1, 1) := by decide +kernel
theorem dX9_turns_7 : decode cX9_turns 7 = .ok (.isub, 1) := by decide +kernel
theorem dX9_turns_8 : decode cX9_turns 8 = .ok (.istore_n 1, 1) := by decide +kernel
theorem dX9_turns_9 : decode cX9_turns 9 = .ok (.iconst 0, 1) := by decide +kernel
theorem dX9_turns_10 : decode cX9_turns 10 = .ok (.istore_n 2, 1) := by decide +kernel
theorem dX9_turns_11 : decode cX9_turns 11 = .ok (.iload_n 2, 1) := by decide +kernel
theorem dX9_turns_12 : decode cX9_turns 12 = .ok (.iload_n 1, 1) := by decide +kernel
theorem dX9_turns_13 : decode cX9_turns 13 = .ok (.if_icmp .gt 111, 3) := by decide +kernel
theorem dX9_turns_16 : decode cX9_turns 16 = .ok (.aload_n 0, 1) := by decide +kernel
theorem dX9_turns_17 : decode cX9_turns 17 = .ok (.getfield 64, 3) := by decide +kernel
theorem dX9_turns_20 : decode cX9_turns 20 = .ok (.iload_n 2, 1) := by decide +kernel
theorem dX9_turns_21 : decode cX9_turns 21 = .ok (.aload_n 0, 1) := by decide +kernel
theorem dX9_turns_22 : decode cX9_turns 22 = .ok (.iload_n 2, 1) := by decide +kernel
theorem dX9_turns_23 : decode cX9_turns 23 = .ok (.invokevirtual 231, 3) := by decide +kernel
theorem dX9_turns_26 : decode cX9_turns 26 = .ok (.bastore, 1) := by decide +kernel
theorem dX9_turns_27 : decode cX9_turns 27 = .ok (.aload_n 0, 1) := by decide +kernel
theorem dX9_turns_28 : decode cX9_turns 28 = .ok (.getfield 68, 3) := by decide +kernel
theorem dX9_turns_31 : decode cX9_turns 31 = .ok (.iload_n 2, 1) := by decide +kernel
theorem dX9_turns_32 : decode cX9_turns 32 = .ok (.iload_n 2, 1) := by decide +kernel
theorem dX9_turns_33 : decode cX9_turns 33 = .ok (.ifCond .ne 7, 3) := by decide +kernel
theorem dX9_turns_36 : decode cX9_turns 36 = .ok (.iconst 0, 1) := by decide +kernel
theorem dX9_turns_37 : decode cX9_turns 37 = .ok (.goto 5, 3) := by decide +kernel
theorem dX9_turns_40 : decode cX9_turns 40 = .ok (.bipush 100, 2) := by decide +kernel
theorem dX9_turns_42 : decode cX9_turns 42 = .ok (.iastore, 1) := by decide +kernel
theorem dX9_turns_43 : decode cX9_turns 43 = .ok (.iload_n 2, 1) := by decide +kernel
theorem dX9_turns_44 : decode cX9_turns 44 = .ok (.istore_n 3, 1) := by decide +kernel
theorem dX9_turns_45 : decode cX9_turns 45 = .ok (.iload_n 3, 1) := by decide +kernel
theorem dX9_turns_46 : decode cX9_turns 46 = .ok (.ifCond .eq 72, 3) := by decide +kernel
theorem dX9_turns_49 : decode cX9_turns 49 = .ok (.iload_n 3, 1) := by decide +kernel
theorem dX9_turns_50 : decode cX9_turns 50 = .ok (.iload_n 2, 1) := by decide +kernel
theorem dX9_turns_51 : decode cX9_turns 51 = .ok (.iand, 1) := by decide +kernel
theorem dX9_turns_52 : decode cX9_turns 52 = .ok (.iload_n 2, 1) := by decide +kernel
theorem dX9_turns_53 : decode cX9_turns 53 = .ok (.ineg, 1) := by decide +kernel
theorem dX9_turns_54 : decode cX9_turns 54 = .ok (.iand, 1) := by decide +kernel
theorem dX9_turns_55 : decode cX9_turns 55 = .ok (.ifCond .eq 54, 3) := by decide +kernel
theorem dX9_turns_58 : decode cX9_turns 58 = .ok (.aload_n 0, 1) := by decide +kernel
theorem dX9_turns_59 : decode cX9_turns 59 = .ok (.getfield 64, 3) := by decide +kernel
theorem dX9_turns_62 : decode cX9_turns 62 = .ok (.iload_n 3, 1) := by decide +kernel
theorem dX9_turns_63 : decode cX9_turns 63 = .ok (.baload, 1) := by decide +kernel
theorem dX9_turns_64 : decode cX9_turns 64 = .ok (.ifCond .eq 45, 3) := by decide +kernel
theorem dX9_turns_67 : decode cX9_turns 67 = .ok (.iconst 1, 1) := by decide +kernel
theorem dX9_turns_68 : decode cX9_turns 68 = .ok (.aload_n 0, 1) := by decide +kernel
theorem dX9_turns_69 : decode cX9_turns 69 = .ok (.getfield 68, 3) := by decide +kernel
theorem dX9_turns_72 : decode cX9_turns 72 = .ok (.iload_n 2, 1) := by decide +kernel
theorem dX9_turns_73 : decode cX9_turns 73 = .ok (.iload_n 3, 1) := by decide +kernel
theorem dX9_turns_74 : decode cX9_turns 74 = .ok (.iconst (-1), 1) := by decide +kernel
theorem dX9_turns_75 : decode cX9_turns 75 = .ok (.ixor, 1) := by decide +kernel
theorem dX9_turns_76 : decode cX9_turns 76 = .ok (.iand, 1) := by decide +kernel
theorem dX9_turns_77 : decode cX9_turns 77 = .ok (.iaload, 1) := by decide +kernel
theorem dX9_turns_78 : decode cX9_turns 78 = .ok (.iadd, 1) := by decide +kernel
theorem dX9_turns_79 : decode cX9_turns 79 = .ok (.istore 4, 2) := by decide +kernel
theorem dX9_turns_81 : decode cX9_turns 81 = .ok (.aload_n 0, 1) := by decide +kernel
theorem dX9_turns_82 : decode cX9_turns 82 = .ok (.getfield 68, 3) := by decide +kernel
theorem dX9_turns_85 : decode cX9_turns 85 = .ok (.iload_n 2, 1) := by decide +kernel
theorem dX9_turns_86 : decode cX9_turns 86 = .ok (.iload 4, 2) := by decide +kernel
theorem dX9_turns_88 : decode cX9_turns 88 = .ok (.aload_n 0, 1) := by decide +kernel
theorem dX9_turns_89 : decode cX9_turns 89 = .ok (.getfield 68, 3) := by decide +kernel
theorem dX9_turns_92 : decode cX9_turns 92 = .ok (.iload_n 2, 1) := by decide +kernel
theorem dX9_turns_93 : decode cX9_turns 93 = .ok (.iaload, 1) := by decide +kernel
theorem dX9_turns_94 : decode cX9_turns 94 = .ok (.if_icmp .ge 8, 3) := by decide +kernel
theorem dX9_turns_97 : decode cX9_turns 97 = .ok (.iload 4, 2) := by decide +kernel
theorem dX9_turns_99 : decode cX9_turns 99 = .ok (.goto 9, 3) := by decide +kernel
theorem dX9_turns_102 : decode cX9_turns 102 = .ok (.aload_n 0, 1) := by decide +kernel
theorem dX9_turns_103 : decode cX9_turns 103 = .ok (.getfield 68, 3) := by decide +kernel
theorem dX9_turns_106 : decode cX9_turns 106 = .ok (.iload_n 2, 1) := by decide +kernel
theorem dX9_turns_107 : decode cX9_turns 107 = .ok (.iaload, 1) := by decide +kernel
theorem dX9_turns_108 : decode cX9_turns 108 = .ok (.iastore, 1) := by decide +kernel
theorem dX9_turns_109 : decode cX9_turns 109 = .ok (.iload_n 3, 1) := by decide +kernel
theorem dX9_turns_110 : decode cX9_turns 110 = .ok (.iconst 1, 1) := by decide +kernel
theorem dX9_turns_111 : decode cX9_turns 111 = .ok (.isub, 1) := by decide +kernel
theorem dX9_turns_112 : decode cX9_turns 112 = .ok (.iload_n 2, 1) := by decide +kernel
theorem dX9_turns_113 : decode cX9_turns 113 = .ok (.iand, 1) := by decide +kernel
theorem dX9_turns_114 : decode cX9_turns 114 = .ok (.istore_n 3, 1) := by decide +kernel
theorem dX9_turns_115 : decode cX9_turns 115 = .ok (.goto (-70), 3) := by decide +kernel
theorem dX9_turns_118 : decode cX9_turns 118 = .ok (.iinc 2 1, 3) := by decide +kernel
theorem dX9_turns_121 : decode cX9_turns 121 = .ok (.goto (-110), 3) := by decide +kernel
theorem dX9_turns_124 : decode cX9_turns 124 = .ok (.aload_n 0, 1) := by decide +kernel
theorem dX9_turns_125 : decode cX9_turns 125 = .ok (.getfield 68, 3) := by decide +kernel
theorem dX9_turns_128 : decode cX9_turns 128 = .ok (.iload_n 1, 1) := by decide +kernel
theorem dX9_turns_129 : decode cX9_turns 129 = .ok (.iaload, 1) := by decide +kernel
theorem dX9_turns_130 : decode cX9_turns 130 = .ok (.bipush 100, 2) := by decide +kernel
theorem dX9_turns_132 : decode cX9_turns 132 = .ok (.if_icmp .lt 6, 3) := by decide +kernel
theorem dX9_turns_135 : decode cX9_turns 135 = .ok (.bipush (-9), 2) := by decide +kernel
theorem dX9_turns_137 : decode cX9_turns 137 = .ok (.ireturn, 1) := by decide +kernel
theorem dX9_turns_138 : decode cX9_turns 138 = .ok (.iconst 0, 1) := by decide +kernel
theorem dX9_turns_139 : decode cX9_turns 139 = .ok (.istore_n 2, 1) := by decide +kernel
theorem dX9_turns_140 : decode cX9_turns 140 = .ok (.iload_n 1, 1) := by decide +kernel
theorem dX9_turns_141 : decode cX9_turns 141 = .ok (.istore_n 3, 1) := by decide +kernel
theorem dX9_turns_142 : decode cX9_turns 142 = .ok (.iload_n 3, 1) := by decide +kernel
theorem dX9_turns_143 : decode cX9_turns 143 = .ok (.ifCond .eq 56, 3) := by decide +kernel
theorem dX9_turns_146 : decode cX9_turns 146 = .ok (.iload_n 3, 1) := by decide +kernel
theorem dX9_turns_147 : decode cX9_turns 147 = .ok (.iconst 0, 1) := by decide +kernel
theorem dX9_turns_148 : decode cX9_turns 148 = .ok (.invokestatic 165, 3) := by decide +kernel
theorem dX9_turns_151 : decode cX9_turns 151 = .ok (.ifCond .eq 37, 3) := by decide +kernel
theorem dX9_turns_154 : decode cX9_turns 154 = .ok (.aload_n 0, 1) := by decide +kernel
theorem dX9_turns_155 : decode cX9_turns 155 = .ok (.getfield 64, 3) := by decide +kernel
theorem dX9_turns_158 : decode cX9_turns 158 = .ok (.iload_n 3, 1) := by decide +kernel
theorem dX9_turns_159 : decode cX9_turns 159 = .ok (.baload, 1) := by decide +kernel
theorem dX9_turns_160 : decode cX9_turns 160 = .ok (.ifCond .eq 28, 3) := by decide +kernel
theorem dX9_turns_163 : decode cX9_turns 163 = .ok (.iconst 1, 1) := by decide +kernel
theorem dX9_turns_164 : decode cX9_turns 164 = .ok (.aload_n 0, 1) := by decide +kernel
theorem dX9_turns_165 : decode cX9_turns 165 = .ok (.getfield 68, 3) := by decide +kernel
theorem dX9_turns_168 : decode cX9_turns 168 = .ok (.iload_n 1, 1) := by decide +kernel
theorem dX9_turns_169 : decode cX9_turns 169 = .ok (.iload_n 3, 1) := by decide +kernel
theorem dX9_turns_170 : decode cX9_turns 170 = .ok (.iconst (-1), 1) := by decide +kernel
theorem dX9_turns_171 : decode cX9_turns 171 = .ok (.ixor, 1) := by decide +kernel
theorem dX9_turns_172 : decode cX9_turns 172 = .ok (.iand, 1) := by decide +kernel
theorem dX9_turns_173 : decode cX9_turns 173 = .ok (.iaload, 1) := by decide +kernel
theorem dX9_turns_174 : decode cX9_turns 174 = .ok (.iadd, 1) := by decide +kernel
theorem dX9_turns_175 : decode cX9_turns 175 = .ok (.aload_n 0, 1) := by decide +kernel
theorem dX9_turns_176 : decode cX9_turns 176 = .ok (.getfield 68, 3) := by decide +kernel
theorem dX9_turns_179 : decode cX9_turns 179 = .ok (.iload_n 1, 1) := by decide +kernel
theorem dX9_turns_180 : decode cX9_turns 180 = .ok (.iaload, 1) := by decide +kernel
theorem dX9_turns_181 : decode cX9_turns 181 = .ok (.if_icmp .ne 7, 3) := by decide +kernel
theorem dX9_turns_184 : decode cX9_turns 184 = .ok (.iload_n 3, 1) := by decide +kernel
theorem dX9_turns_185 : decode cX9_turns 185 = .ok (.goto 4, 3) := by decide +kernel
theorem dX9_turns_188 : decode cX9_turns 188 = .ok (.iload_n 2, 1) := by decide +kernel
theorem dX9_turns_189 : decode cX9_turns 189 = .ok (.istore_n 2, 1) := by decide +kernel
theorem dX9_turns_190 : decode cX9_turns 190 = .ok (.iload_n 3, 1) := by decide +kernel
theorem dX9_turns_191 : decode cX9_turns 191 = .ok (.iconst 1, 1) := by decide +kernel
theorem dX9_turns_192 : decode cX9_turns 192 = .ok (.isub, 1) := by decide +kernel
theorem dX9_turns_193 : decode cX9_turns 193 = .ok (.iload_n 1, 1) := by decide +kernel
theorem dX9_turns_194 : decode cX9_turns 194 = .ok (.iand, 1) := by decide +kernel
theorem dX9_turns_195 : decode cX9_turns 195 = .ok (.istore_n 3, 1) := by decide +kernel
theorem dX9_turns_196 : decode cX9_turns 196 = .ok (.goto (-54), 3) := by decide +kernel
theorem dX9_turns_199 : decode cX9_turns 199 = .ok (.aload_n 0, 1) := by decide +kernel
theorem dX9_turns_200 : decode cX9_turns 200 = .ok (.aload_n 0, 1) := by decide +kernel
theorem dX9_turns_201 : decode cX9_turns 201 = .ok (.getfield 68, 3) := by decide +kernel
theorem dX9_turns_204 : decode cX9_turns 204 = .ok (.iload_n 1, 1) := by decide +kernel
theorem dX9_turns_205 : decode cX9_turns 205 = .ok (.iaload, 1) := by decide +kernel
theorem dX9_turns_206 : decode cX9_turns 206 = .ok (.iload_n 2, 1) := by decide +kernel
theorem dX9_turns_207 : decode cX9_turns 207 = .ok (.invokevirtual 116, 3) := by decide +kernel
theorem dX9_turns_210 : decode cX9_turns 210 = .ok (.ireturn, 1) := by decide +kernel
set_option maxRecDepth 20000 in
theorem ggX9_most_X9_ones : GoodIn wsX9_most wsX9_ones := goodIn_r _ [5] (by decide +kernel) (by decide +kernel)
set_option maxRecDepth 20000 in
theorem gX9_most_X9_ones : GoodIn wsX9_most (va_wsS RX9 202 yX9_ones wsX9_ones) := goodIn_app (goodIn_of _ (by decide +kernel)) ggX9_most_X9_ones
set_option maxRecDepth 20000 in
theorem ggX9_most_X9_areBeside : GoodIn wsX9_most wsX9_areBeside := goodIn_r _ [9, 1, 10, 11, 12, 13, 14, 15, 4, 16, 17, 18, 19, 20, 21, 22, 23, 24, 25, 26, 27, 28, 29, 30, 31, 32, 33, 34, 35, 41, 42, 43, 44, 45, 46, 47, 48, 49, 50, 51, 52, 53, 54, 55, 56, 57, 58, 59, 60, 61, 62, 63, 64, 65, 66, 67, 68, 69, 70, 71, 72, 73, 74, 75, 76] (by decide +kernel) (by decide +kernel)
set_option maxRecDepth 20000 in
theorem gX9_most_X9_areBeside : GoodIn wsX9_most (wsV RX9 231 RX9 yX9_areBeside wsX9_areBeside) := goodIn_app (goodIn_of _ (by decide +kernel)) ggX9_most_X9_areBeside
set_option maxRecDepth 20000 in
theorem ggX9_most_X9_say : GoodIn wsX9_most wsX9_say := goodIn_r _ [39, 40, 41, 42, 43, 44, 45, 46, 47, 48, 49, 50, 51, 52, 53, 54, 55, 56, 57, 58, 59, 60, 61, 62, 63, 64, 65, 66, 67, 68, 69, 70, 71, 72, 73, 74, 75, 76] (by decide +kernel) (by decide +kernel)
set_option maxRecDepth 20000 in
theorem gX9_most_X9_say : GoodIn wsX9_most (wsV RX9 116 RX9 yX9_say wsX9_say) := goodIn_app (goodIn_of _ (by decide +kernel)) ggX9_most_X9_say
theorem dX9_most_0 : decode cX9_most 0 = .ok (.iconst 0, 1) := by decide +kernel
theorem dX9_most_1 : decode cX9_most 1 = .ok (.istore_n 1, 1) := by decide +kernel
theorem dX9_most_2 : decode cX9_most 2 = .ok (.iconst 0, 1) := by decide +kernel
theorem dX9_most_3 : decode cX9_most 3 = .ok (.istore_n 2, 1) := by decide +kernel
theorem dX9_most_4 : decode cX9_most 4 = .ok (.iload_n 2, 1) := by decide +kernel
theorem dX9_most_5 : decode cX9_most 5 = .ok (.iconst 1, 1) := by decide +kernel
theorem dX9_most_6 : decode cX9_most 6 = .ok (.aload_n 0, 1) := by decide +kernel
theorem dX9_most_7 : decode cX9_most 7 = .ok (.getfield 156, 3) := by decide +kernel
theorem dX9_most_10 : decode cX9_most 10 = .ok (.ishl, 1) := by decide +kernel
theorem dX9_most_11 : decode cX9_most 11 = .ok (.if_icmp .ge 34, 3) := by decide +kernel
theorem dX9_most_14 : decode cX9_most 14 = .ok (.iload_n 2, 1) := by decide +kernel
theorem dX9_most_15 : decode cX9_most 15 = .ok (.invokestatic 202, 3) := by decide +kernel
theorem dX9_most_18 : decode cX9_most 18 = .ok (.iload_n 1, 1) := by decide +kernel
theorem dX9_most_19 : decode cX9_most 19 = .ok (.invokestatic 202, 3) := by decide +kernel
theorem dX9_most_22 : decode cX9_most 22 = .ok (.if_icmp .le 15, 3) := by decide +kernel
theorem dX9_most_25 : decode cX9_most 25 = .ok (.aload_n 0, 1) := by decide +kernel
theorem dX9_most_26 : decode cX9_most 26 = .ok (.iload_n 2, 1) := by decide +kernel
theorem dX9_most_27 : decode cX9_most 27 = .ok (.invokevirtual 231, 3) := by decide +kernel
theorem dX9_most_30 : decode cX9_most 30 = .ok (.ifCond .eq 7, 3) := by decide +kernel
theorem dX9_most_33 : decode cX9_most 33 = .ok (.iload_n 2, 1) := by decide +kernel
theorem dX9_most_34 : decode cX9_most 34 = .ok (.goto 4, 3) := by decide +kernel
theorem dX9_most_37 : decode cX9_most 37 = .ok (.iload_n 1, 1) := by decide +kernel
theorem dX9_most_38 : decode cX9_most 38 = .ok (.istore_n 1, 1) := by decide +kernel
theorem dX9_most_39 : decode cX9_most 39 = .ok (.iinc 2 1, 3) := by decide +kernel
theorem dX9_most_42 : decode cX9_most 42 = .ok (.goto (-38), 3) := by decide +kernel
theorem dX9_most_45 : decode cX9_most 45 = .ok (.aload_n 0, 1) := by decide +kernel
theorem dX9_most_46 : decode cX9_most 46 = .ok (.iload_n 1, 1) := by decide +kernel
theorem dX9_most_47 : decode cX9_most 47 = .ok (.invokestatic 202, 3) := by decide +kernel
theorem dX9_most_50 : decode cX9_most 50 = .ok (.iload_n 1, 1) := by decide +kernel
theorem dX9_most_51 : decode cX9_most 51 = .ok (.invokevirtual 116, 3) := by decide +kernel
theorem dX9_most_54 : decode cX9_most 54 = .ok (.ireturn, 1) := by decide +kernel
set_option maxRecDepth 20000 in
theorem ggX9_safeSet_X9_isSafe : GoodIn wsX9_safeSet wsX9_isSafe := goodIn_r _ [6, 7, 8, 9, 10, 5, 11, 12, 13, 14, 15, 16, 17, 18, 19, 20, 21, 22, 23, 24, 25, 26, 27, 28, 29, 30, 31, 32, 33, 34, 35, 36, 37, 38, 39, 40, 41, 42, 43, 44, 45, 46, 47, 48, 49, 50, 51, 52, 53, 54, 55, 56, 57, 58, 59, 60, 61, 62, 63, 64, 65, 66, 67, 68, 69, 70, 71, 72, 73, 74, 75] (by decide +kernel) (by decide +kernel)
set_option maxRecDepth 20000 in
theorem gX9_safeSet_X9_isSafe : GoodIn wsX9_safeSet (wsV RX9 224 RX9 yX9_isSafe wsX9_isSafe) := goodIn_app (goodIn_of _ (by decide +kernel)) ggX9_safeSet_X9_isSafe
theorem dX9_safeSet_0 : decode cX9_safeSet 0 = .ok (.iconst 0, 1) := by decide +kernel
theorem dX9_safeSet_1 : decode cX9_safeSet 1 = .ok (.istore_n 1, 1) := by decide +kernel
theorem dX9_safeSet_2 : decode cX9_safeSet 2 = .ok (.iconst 0, 1) := by decide +kernel
theorem dX9_safeSet_3 : decode cX9_safeSet 3 = .ok (.istore_n 2, 1) := by decide +kernel
theorem dX9_safeSet_4 : decode cX9_safeSet 4 = .ok (.iload_n 2, 1) := by decide +kernel
theorem dX9_safeSet_5 : decode cX9_safeSet 5 = .ok (.aload_n 0, 1) := by decide +kernel
theorem dX9_safeSet_6 : decode cX9_safeSet 6 = .ok (.getfield 156, 3) := by decide +kernel
theorem dX9_safeSet_9 : decode cX9_safeSet 9 = .ok (.if_icmp .ge 28, 3) := by decide +kernel
theorem dX9_safeSet_12 : decode cX9_safeSet 12 = .ok (.iload_n 1, 1) := by decide +kernel
theorem dX9_safeSet_13 : decode cX9_safeSet 13 = .ok (.aload_n 0, 1) := by decide +kernel
theorem dX9_safeSet_14 : decode cX9_safeSet 14 = .ok (.iload_n 2, 1) := by decide +kernel
theorem dX9_safeSet_15 : decode cX9_safeSet 15 = .ok (.iconst 0, 1) := by decide +kernel
theorem dX9_safeSet_16 : decode cX9_safeSet 16 = .ok (.invokevirtual 224, 3) := by decide +kernel
theorem dX9_safeSet_19 : decode cX9_safeSet 19 = .ok (.ifCond .eq 9, 3) := by decide +kernel
theorem dX9_safeSet_22 : decode cX9_safeSet 22 = .ok (.iconst 1, 1) := by decide +kernel
theorem dX9_safeSet_23 : decode cX9_safeSet 23 = .ok (.iload_n 2, 1) := by decide +kernel
theorem dX9_safeSet_24 : decode cX9_safeSet 24 = .ok (.ishl, 1) := by decide +kernel
theorem dX9_safeSet_25 : decode cX9_safeSet 25 = .ok (.goto 4, 3) := by decide +kernel
theorem dX9_safeSet_28 : decode cX9_safeSet 28 = .ok (.iconst 0, 1) := by decide +kernel
theorem dX9_safeSet_29 : decode cX9_safeSet 29 = .ok (.ior, 1) := by decide +kernel
theorem dX9_safeSet_30 : decode cX9_safeSet 30 = .ok (.istore_n 1, 1) := by decide +kernel
theorem dX9_safeSet_31 : decode cX9_safeSet 31 = .ok (.iinc 2 1, 3) := by decide +kernel
theorem dX9_safeSet_34 : decode cX9_safeSet 34 = .ok (.goto (-30), 3) := by decide +kernel
theorem dX9_safeSet_37 : decode cX9_safeSet 37 = .ok (.iload_n 1, 1) := by decide +kernel
theorem dX9_safeSet_38 : decode cX9_safeSet 38 = .ok (.ireturn, 1) := by decide +kernel
set_option maxRecDepth 20000 in
theorem ggX9_safes_X9_safeSet : GoodIn wsX9_safes wsX9_safeSet := goodIn_r _ [5, 6, 7, 8, 9, 4, 10, 11, 12, 13, 14, 15, 16, 17, 18, 19, 20, 21, 22, 23, 24, 25, 26, 27, 28, 29, 30, 31, 32, 33, 34, 35, 36, 37, 38, 39, 40, 41, 42, 43, 52, 53, 54, 55, 56, 57, 58, 59, 60, 61, 62, 63, 64, 65, 66, 67, 68, 69, 70, 71, 72, 73, 74, 75, 76, 77, 78, 79, 80, 81, 82, 83, 84, 85, 86, 87] (by decide +kernel) (by decide +kernel)
set_option maxRecDepth 20000 in
theorem gX9_safes_X9_safeSet : GoodIn wsX9_safes (wsV RX9 234 RX9 yX9_safeSet wsX9_safeSet) := goodIn_app (goodIn_of _ (by decide +kernel)) ggX9_safes_X9_safeSet
set_option maxRecDepth 20000 in
theorem ggX9_safes_X9_ones : GoodIn wsX9_safes wsX9_ones := goodIn_r _ [46] (by decide +kernel) (by decide +kernel)
set_option maxRecDepth 20000 in
theorem gX9_safes_X9_ones : GoodIn wsX9_safes (va_wsS RX9 202 yX9_ones wsX9_ones) := goodIn_app (goodIn_of _ (by decide +kernel)) ggX9_safes_X9_ones
set_option maxRecDepth 20000 in
theorem ggX9_safes_X9_say : GoodIn wsX9_safes wsX9_say := goodIn_r _ [50, 51, 52, 53, 54, 55, 56, 57, 58, 59, 60, 61, 62, 63, 64, 65, 66, 67, 68, 69, 70, 71, 72, 73, 74, 75, 76, 77, 78, 79, 80, 81, 82, 83, 84, 85, 86, 87] (by decide +kernel) (by decide +kernel)
set_option maxRecDepth 20000 in
theorem gX9_safes_X9_say : GoodIn wsX9_safes (wsV RX9 116 RX9 yX9_say wsX9_say) := goodIn_app (goodIn_of _ (by decide +kernel)) ggX9_safes_X9_say
theorem dX9_safes_0 : decode cX9_safes 0 = .ok (.aload_n 0, 1) := by decide +kernel
theorem dX9_safes_1 : decode cX9_safes 1 = .ok (.invokevirtual 234, 3) := by decide +kernel
theorem dX9_safes_4 : decode cX9_safes 4 = .ok (.istore_n 1, 1) := by decide +kernel
theorem dX9_safes_5 : decode cX9_safes 5 = .ok (.aload_n 0, 1) := by decide +kernel
theorem dX9_safes_6 : decode cX9_safes 6 = .ok (.iload_n 1, 1) := by decide +kernel
theorem dX9_safes_7 : decode cX9_safes 7 = .ok (.invokestatic 202, 3) := by decide +kernel
theorem dX9_safes_10 : decode cX9_safes 10 = .ok (.iload_n 1, 1) := by decide +kernel
theorem dX9_safes_11 : decode cX9_safes 11 = .ok (.invokevirtual 116, 3) := by decide +kernel
theorem dX9_safes_14 : decode cX9_safes 14 = .ok (.ireturn, 1) := by decide +kernel
theorem dX9_nextOrder_0 : decode cX9_nextOrder 0 = .ok (.aload_n 0, 1) := by decide +kernel
theorem dX9_nextOrder_1 : decode cX9_nextOrder 1 = .ok (.getfield 153, 3) := by decide +kernel
theorem dX9_nextOrder_4 : decode cX9_nextOrder 4 = .ok (.iconst 2, 1) := by decide +kernel
theorem dX9_nextOrder_5 : decode cX9_nextOrder 5 = .ok (.isub, 1) := by decide +kernel
theorem dX9_nextOrder_6 : decode cX9_nextOrder 6 = .ok (.istore_n 1, 1) := by decide +kernel
theorem dX9_nextOrder_7 : decode cX9_nextOrder 7 = .ok (.iload_n 1, 1) := by decide +kernel
theorem dX9_nextOrder_8 : decode cX9_nextOrder 8 = .ok (.ifCond .lt 26, 3) := by decide +kernel
theorem dX9_nextOrder_11 : decode cX9_nextOrder 11 = .ok (.aload_n 0, 1) := by decide +kernel
theorem dX9_nextOrder_12 : decode cX9_nextOrder 12 = .ok (.getfield 71, 3) := by decide +kernel
theorem dX9_nextOrder_15 : decode cX9_nextOrder 15 = .ok (.iload_n 1, 1) := by decide +kernel
theorem dX9_nextOrder_16 : decode cX9_nextOrder 16 = .ok (.iaload, 1) := by decide +kernel
theorem dX9_nextOrder_17 : decode cX9_nextOrder 17 = .ok (.aload_n 0, 1) := by decide +kernel
theorem dX9_nextOrder_18 : decode cX9_nextOrder 18 = .ok (.getfield 71, 3) := by decide +kernel
theorem dX9_nextOrder_21 : decode cX9_nextOrder 21 = .ok (.iload_n 1, 1) := by decide +kernel
theorem dX9_nextOrder_22 : decode cX9_nextOrder 22 = .ok (.iconst 1, 1) := by decide +kernel
theorem dX9_nextOrder_23 : decode cX9_nextOrder 23 = .ok (.iadd, 1) := by decide +kernel
theorem dX9_nextOrder_24 : decode cX9_nextOrder 24 = .ok (.iaload, 1) := by decide +kernel
theorem dX9_nextOrder_25 : decode cX9_nextOrder 25 = .ok (.if_icmp .le 9, 3) := by decide +kernel
theorem dX9_nextOrder_28 : decode cX9_nextOrder 28 = .ok (.iinc 1 (-1), 3) := by decide +kernel
theorem dX9_nextOrder_31 : decode cX9_nextOrder 31 = .ok (.goto (-24), 3) := by decide +kernel
theorem dX9_nextOrder_34 : decode cX9_nextOrder 34 = .ok (.iload_n 1, 1) := by decide +kernel
theorem dX9_nextOrder_35 : decode cX9_nextOrder 35 = .ok (.ifCond .ge 5, 3) := by decide +kernel
theorem dX9_nextOrder_38 : decode cX9_nextOrder 38 = .ok (.iconst 0, 1) := by decide +kernel
theorem dX9_nextOrder_39 : decode cX9_nextOrder 39 = .ok (.ireturn, 1) := by decide +kernel
theorem dX9_nextOrder_40 : decode cX9_nextOrder 40 = .ok (.aload_n 0, 1) := by decide +kernel
theorem dX9_nextOrder_41 : decode cX9_nextOrder 41 = .ok (.getfield 153, 3) := by decide +kernel
theorem dX9_nextOrder_44 : decode cX9_nextOrder 44 = .ok (.iconst 1, 1) := by decide +kernel
theorem dX9_nextOrder_45 : decode cX9_nextOrder 45 = .ok (.isub, 1) := by decide +kernel
theorem dX9_nextOrder_46 : decode cX9_nextOrder 46 = .ok (.istore_n 2, 1) := by decide +kernel
theorem dX9_nextOrder_47 : decode cX9_nextOrder 47 = .ok (.aload_n 0, 1) := by decide +kernel
theorem dX9_nextOrder_48 : decode cX9_nextOrder 48 = .ok (.getfield 71, 3) := by decide +kernel
theorem dX9_nextOrder_51 : decode cX9_nextOrder 51 = .ok (.iload_n 2, 1) := by decide +kernel
theorem dX9_nextOrder_52 : decode cX9_nextOrder 52 = .ok (.iaload, 1) := by decide +kernel
theorem dX9_nextOrder_53 : decode cX9_nextOrder 53 = .ok (.aload_n 0, 1) := by decide +kernel
theorem dX9_nextOrder_54 : decode cX9_nextOrder 54 = .ok (.getfield 71, 3) := by decide +kernel
theorem dX9_nextOrder_57 : decode cX9_nextOrder 57 = .ok (.iload_n 1, 1) := by decide +kernel
theorem dX9_nextOrder_58 : decode cX9_nextOrder 58 = .ok (.iaload, 1) := by decide +kernel
theorem dX9_nextOrder_59 : decode cX9_nextOrder 59 = .ok (.if_icmp .ge 9, 3) := by decide +kernel
theorem dX9_nextOrder_62 : decode cX9_nextOrder 62 = .ok (.iinc 2 (-1), 3) := by decide +kernel
theorem dX9_nextOrder_65 : decode cX9_nextOrder 65 = .ok (.goto (-18), 3) := by decide +kernel
theorem dX9_nextOrder_68 : decode cX9_nextOrder 68 = .ok (.aload_n 0, 1) := by decide +kernel
theorem dX9_nextOrder_69 : decode cX9_nextOrder 69 = .ok (.getfield 71, 3) := by decide +kernel
theorem dX9_nextOrder_72 : decode cX9_nextOrder 72 = .ok (.iload_n 1, 1) := by decide +kernel
theorem dX9_nextOrder_73 : decode cX9_nextOrder 73 = .ok (.iaload, 1) := by decide +kernel
theorem dX9_nextOrder_74 : decode cX9_nextOrder 74 = .ok (.istore_n 3, 1) := by decide +kernel
theorem dX9_nextOrder_75 : decode cX9_nextOrder 75 = .ok (.aload_n 0, 1) := by decide +kernel
theorem dX9_nextOrder_76 : decode cX9_nextOrder 76 = .ok (.getfield 71, 3) := by decide +kernel
theorem dX9_nextOrder_79 : decode cX9_nextOrder 79 = .ok (.iload_n 1, 1) := by decide +kernel
theorem dX9_nextOrder_80 : decode cX9_nextOrder 80 = .ok (.aload_n 0, 1) := by decide +kernel
theorem dX9_nextOrder_81 : decode cX9_nextOrder 81 = .ok (.getfield 71, 3) := by decide +kernel
theorem dX9_nextOrder_84 : decode cX9_nextOrder 84 = .ok (.iload_n 2, 1) := by decide +kernel
theorem dX9_nextOrder_85 : decode cX9_nextOrder 85 = .ok (.iaload, 1) := by decide +kernel
theorem dX9_nextOrder_86 : decode cX9_nextOrder 86 = .ok (.iastore, 1) := by decide +kernel
theorem dX9_nextOrder_87 : decode cX9_nextOrder 87 = .ok (.aload_n 0, 1) := by decide +kernel
theorem dX9_nextOrder_88 : decode cX9_nextOrder 88 = .ok (.getfield 71, 3) := by decide +kernel
theorem dX9_nextOrder_91 : decode cX9_nextOrder 91 = .ok (.iload_n 2, 1) := by decide +kernel
theorem dX9_nextOrder_92 : decode cX9_nextOrder 92 = .ok (.iload_n 3, 1) := by decide +kernel
theorem dX9_nextOrder_93 : decode cX9_nextOrder 93 = .ok (.iastore, 1) := by decide +kernel
theorem dX9_nextOrder_94 : decode cX9_nextOrder 94 = .ok (.aload_n 0, 1) := by decide +kernel
theorem dX9_nextOrder_95 : decode cX9_nextOrder 95 = .ok (.getfield 153, 3) := by decide +kernel
theorem dX9_nextOrder_98 : decode cX9_nextOrder 98 = .ok (.iconst 1, 1) := by decide +kernel
theorem dX9_nextOrder_99 : decode cX9_nextOrder 99 = .ok (.isub, 1) := by decide +kernel
theorem dX9_nextOrder_100 : decode cX9_nextOrder 100 = .ok (.istore 4, 2) := by decide +kernel
theorem dX9_nextOrder_102 : decode cX9_nextOrder 102 = .ok (.iload_n 1, 1) := by decide +kernel
theorem dX9_nextOrder_103 : decode cX9_nextOrder 103 = .ok (.iconst 1, 1) := by decide +kernel
theorem dX9_nextOrder_104 : decode cX9_nextOrder 104 = .ok (.iadd, 1) := by decide +kernel
theorem dX9_nextOrder_105 : decode cX9_nextOrder 105 = .ok (.istore 5, 2) := by decide +kernel
theorem dX9_nextOrder_107 : decode cX9_nextOrder 107 = .ok (.iload 5, 2) := by decide +kernel
theorem dX9_nextOrder_109 : decode cX9_nextOrder 109 = .ok (.iload 4, 2) := by decide +kernel
theorem dX9_nextOrder_111 : decode cX9_nextOrder 111 = .ok (.if_icmp .ge 42, 3) := by decide +kernel
theorem dX9_nextOrder_114 : decode cX9_nextOrder 114 = .ok (.aload_n 0, 1) := by decide +kernel
theorem dX9_nextOrder_115 : decode cX9_nextOrder 115 = .ok (.getfield 71, 3) := by decide +kernel
theorem dX9_nextOrder_118 : decode cX9_nextOrder 118 = .ok (.iload 5, 2) := by decide +kernel
theorem dX9_nextOrder_120 : decode cX9_nextOrder 120 = .ok (.iaload, 1) := by decide +kernel
theorem dX9_nextOrder_121 : decode cX9_nextOrder 121 = .ok (.istore_n 3, 1) := by decide +kernel
theorem dX9_nextOrder_122 : decode cX9_nextOrder 122 = .ok (.aload_n 0, 1) := by decide +kernel
theorem dX9_nextOrder_123 : decode cX9_nextOrder 123 = .ok (.getfield 71, 3) := by decide +kernel
theorem dX9_nextOrder_126 : decode cX9_nextOrder 126 = .ok (.iload 5, 2) := by decide +kernel
theorem dX9_nextOrder_128 : decode cX9_nextOrder 128 = .ok (.aload_n 0, 1) := by decide +kernel
theorem dX9_nextOrder_129 : decode cX9_nextOrder 129 = .ok (.getfield 71, 3) := by decide +kernel
theorem dX9_nextOrder_132 : decode cX9_nextOrder 132 = .ok (.iload 4, 2) := by decide +kernel
theorem dX9_nextOrder_134 : decode cX9_nextOrder 134 = .ok (.iaload, 1) := by decide +kernel
theorem dX9_nextOrder_135 : decode cX9_nextOrder 135 = .ok (.iastore, 1) := by decide +kernel
theorem dX9_nextOrder_136 : decode cX9_nextOrder 136 = .ok (.aload_n 0, 1) := by decide +kernel
theorem dX9_nextOrder_137 : decode cX9_nextOrder 137 = .ok (.getfield 71, 3) := by decide +kernel
theorem dX9_nextOrder_140 : decode cX9_nextOrder 140 = .ok (.iload 4, 2) := by decide +kernel
theorem dX9_nextOrder_142 : decode cX9_nextOrder 142 = .ok (.iload_n 3, 1) := by decide +kernel
theorem dX9_nextOrder_143 : decode cX9_nextOrder 143 = .ok (.iastore, 1) := by decide +kernel
theorem dX9_nextOrder_144 : decode cX9_nextOrder 144 = .ok (.iinc 4 (-1), 3) := by decide +kernel
theorem dX9_nextOrder_147 : decode cX9_nextOrder 147 = .ok (.iinc 5 1, 3) := by decide +kernel
theorem dX9_nextOrder_150 : decode cX9_nextOrder 150 = .ok (.goto (-43), 3) := by decide +kernel
theorem dX9_nextOrder_153 : decode cX9_nextOrder 153 = .ok (.iconst 1, 1) := by decide +kernel
theorem dX9_nextOrder_154 : decode cX9_nextOrder 154 = .ok (.ireturn, 1) := by decide +kernel
set_option maxRecDepth 20000 in
theorem ggX9_rooms_X9_isRow : GoodIn wsX9_rooms wsX9_isRow := goodIn_r _ [10, 11, 12, 13, 9, 14] (by decide +kernel) (by decide +kernel)
set_option maxRecDepth 20000 in
theorem gX9_rooms_X9_isRow : GoodIn wsX9_rooms (va_wsS RX9 104 yX9_isRow wsX9_isRow) := goodIn_app (goodIn_of _ (by decide +kernel)) ggX9_rooms_X9_isRow
set_option maxRecDepth 20000 in
theorem ggX9_rooms_X9_safeSet : GoodIn wsX9_rooms wsX9_safeSet := goodIn_r _ [18, 19, 20, 21, 22, 9, 23, 24, 25, 26, 27, 28, 1, 29, 4, 30, 31, 32, 33, 34, 35, 36, 37, 38, 39, 40, 41, 42, 43, 44, 45, 46, 47, 48, 49, 50, 51, 52, 53, 54, 73, 74, 75, 76, 77, 78, 79, 80, 81, 82, 83, 84, 85, 86, 87, 88, 89, 90, 91, 92, 93, 94, 95, 96, 97, 98, 99, 100, 101, 102, 103, 104, 105, 106, 107, 108] (by decide +kernel) (by decide +kernel)
set_option maxRecDepth 20000 in
theorem gX9_rooms_X9_safeSet : GoodIn wsX9_rooms (wsV RX9 234 RX9 yX9_safeSet wsX9_safeSet) := goodIn_app (goodIn_of _ (by decide +kernel)) ggX9_rooms_X9_safeSet
set_option maxRecDepth 20000 in
theorem ggX9_rooms_X9_ones : GoodIn wsX9_rooms wsX9_ones := goodIn_r _ [57] (by decide +kernel) (by decide +kernel)
set_option maxRecDepth 20000 in
theorem gX9_rooms_X9_ones : GoodIn wsX9_rooms (va_wsS RX9 202 yX9_ones wsX9_ones) := goodIn_app (goodIn_of _ (by decide +kernel)) ggX9_rooms_X9_ones
set_option maxRecDepth 20000 in
theorem ggX9_rooms_X9_nextOrder : GoodIn wsX9_rooms wsX9_nextOrder := goodIn_r _ [61, 1, 2, 73, 74, 75, 76, 77, 78, 79, 80, 81, 82, 83, 84, 85, 86, 87, 88, 89, 90, 91, 92, 93, 94, 95, 96, 97, 98, 99, 100, 101, 102, 103, 104, 105, 106, 107, 108] (by decide +kernel) (by decide +kernel)
set_option maxRecDepth 20000 in
theorem gX9_rooms_X9_nextOrder : GoodIn wsX9_rooms (wsV RX9 238 RX9 yX9_nextOrder wsX9_nextOrder) := goodIn_app (goodIn_of _ (by decide +kernel)) ggX9_rooms_X9_nextOrder
set_option maxRecDepth 20000 in
theorem ggX9_rooms_X9_row : GoodIn wsX9_rooms wsX9_row := goodIn_r _ [65, 66, 6, 7, 8, 9, 10, 11, 12, 13, 14, 67, 68, 69, 70, 71, 72, 73, 74, 75, 76, 77, 78, 79, 80, 81, 82, 83, 84, 85, 86, 87, 88, 89, 90, 91, 92, 93, 94, 95, 96, 97, 98, 99, 100, 101, 102, 103, 104, 105, 106, 107, 108] (by decide +kernel) (by decide +kernel)
set_option maxRecDepth 20000 in
theorem gX9_rooms_X9_row : GoodIn wsX9_rooms (wsV RX9 242 RX9 yX9_row wsX9_row) := goodIn_app (goodIn_of _ (by decide +kernel)) ggX9_rooms_X9_row
theorem dX9_rooms_0 : decode cX9_rooms 0 = .ok (.iload_n 1, 1) := by decide +kernel
theorem dX9_rooms_1 : decode cX9_rooms 1 = .ok (.invokestatic 104, 3) := by decide +kernel
theorem dX9_rooms_4 : decode cX9_rooms 4 = .ok (.ifCond .ne 5, 3) := by decide +kernel
theorem dX9_rooms_7 : decode cX9_rooms 7 = .ok (.iconst (-1), 1) := by decide +kernel
theorem dX9_rooms_8 : decode cX9_rooms 8 = .ok (.ireturn, 1) := by decide +kernel
theorem dX9_rooms_9 : decode cX9_rooms 9 = .ok (.aload_n 0, 1) := by decide +kernel
theorem dX9_rooms_10 : decode cX9_rooms 10 = .ok (.getfield 153, 3) := by decide +kernel
theorem dX9_rooms_13 : decode cX9_rooms 13 = .ok (.ifCond .ne 6, 3) := by decide +kernel
theorem dX9_rooms_16 : decode cX9_rooms 16 = .ok (.bipush (-4), 2) := by decide +kernel
theorem dX9_rooms_18 : decode cX9_rooms 18 = .ok (.ireturn, 1) := by decide +kernel
theorem dX9_rooms_19 : decode cX9_rooms 19 = .ok (.iconst 0, 1) := by decide +kernel
theorem dX9_rooms_20 : decode cX9_rooms 20 = .ok (.istore_n 2, 1) := by decide +kernel
theorem dX9_rooms_21 : decode cX9_rooms 21 = .ok (.iload_n 2, 1) := by decide +kernel
theorem dX9_rooms_22 : decode cX9_rooms 22 = .ok (.aload_n 0, 1) := by decide +kernel
theorem dX9_rooms_23 : decode cX9_rooms 23 = .ok (.getfield 153, 3) := by decide +kernel
theorem dX9_rooms_26 : decode cX9_rooms 26 = .ok (.if_icmp .ge 28, 3) := by decide +kernel
theorem dX9_rooms_29 : decode cX9_rooms 29 = .ok (.aload_n 0, 1) := by decide +kernel
theorem dX9_rooms_30 : decode cX9_rooms 30 = .ok (.getfield 71, 3) := by decide +kernel
theorem dX9_rooms_33 : decode cX9_rooms 33 = .ok (.iload_n 2, 1) := by decide +kernel
theorem dX9_rooms_34 : decode cX9_rooms 34 = .ok (.iload_n 2, 1) := by decide +kernel
theorem dX9_rooms_35 : decode cX9_rooms 35 = .ok (.iastore, 1) := by decide +kernel
theorem dX9_rooms_36 : decode cX9_rooms 36 = .ok (.aload_n 0, 1) := by decide +kernel
theorem dX9_rooms_37 : decode cX9_rooms 37 = .ok (.getfield 77, 3) := by decide +kernel
theorem dX9_rooms_40 : decode cX9_rooms 40 = .ok (.iload_n 2, 1) := by decide +kernel
theorem dX9_rooms_41 : decode cX9_rooms 41 = .ok (.aload_n 0, 1) := by decide +kernel
theorem dX9_rooms_42 : decode cX9_rooms 42 = .ok (.getfield 25, 3) := by decide +kernel
theorem dX9_rooms_45 : decode cX9_rooms 45 = .ok (.iload_n 2, 1) := by decide +kernel
theorem dX9_rooms_46 : decode cX9_rooms 46 = .ok (.iaload, 1) := by decide +kernel
theorem dX9_rooms_47 : decode cX9_rooms 47 = .ok (.iastore, 1) := by decide +kernel
theorem dX9_rooms_48 : decode cX9_rooms 48 = .ok (.iinc 2 1, 3) := by decide +kernel
theorem dX9_rooms_51 : decode cX9_rooms 51 = .ok (.goto (-30), 3) := by decide +kernel
theorem dX9_rooms_54 : decode cX9_rooms 54 = .ok (.iconst (-1), 1) := by decide +kernel
theorem dX9_rooms_55 : decode cX9_rooms 55 = .ok (.istore_n 2, 1) := by decide +kernel
theorem dX9_rooms_56 : decode cX9_rooms 56 = .ok (.iconst 1, 1) := by decide +kernel
theorem dX9_rooms_57 : decode cX9_rooms 57 = .ok (.istore_n 3, 1) := by decide +kernel
theorem dX9_rooms_58 : decode cX9_rooms 58 = .ok (.iload_n 3, 1) := by decide +kernel
theorem dX9_rooms_59 : decode cX9_rooms 59 = .ok (.ifCond .eq 108, 3) := by decide +kernel
theorem dX9_rooms_62 : decode cX9_rooms 62 = .ok (.iconst 0, 1) := by decide +kernel
theorem dX9_rooms_63 : decode cX9_rooms 63 = .ok (.istore 4, 2) := by decide +kernel
theorem dX9_rooms_65 : decode cX9_rooms 65 = .ok (.iload 4, 2) := by decide +kernel
theorem dX9_rooms_67 : decode cX9_rooms 67 = .ok (.aload_n 0, 1) := by decide +kernel
theorem dX9_rooms_68 : decode cX9_rooms 68 = .ok (.getfield 153, 3) := by decide +kernel
theorem dX9_rooms_71 : decode cX9_rooms 71 = .ok (.if_icmp .ge 28, 3) := by decide +kernel
theorem dX9_rooms_74 : decode cX9_rooms 74 = .ok (.aload_n 0, 1) := by decide +kernel
theorem dX9_rooms_75 : decode cX9_rooms 75 = .ok (.getfield 25, 3) := by decide +kernel
theorem dX9_rooms_78 : decode cX9_rooms 78 = .ok (.iload 4, 2) := by decide +kernel
theorem dX9_rooms_80 : decode cX9_rooms 80 = .ok (.aload_n 0, 1) := by decide +kernel
theorem dX9_rooms_81 : decode cX9_rooms 81 = .ok (.getfield 77, 3) := by decide +kernel
theorem dX9_rooms_84 : decode cX9_rooms 84 = .ok (.aload_n 0, 1) := by decide +kernel
theorem dX9_rooms_85 : decode cX9_rooms 85 = .ok (.getfield 71, 3) := by decide +kernel
theorem dX9_rooms_88 : decode cX9_rooms 88 = .ok (.iload 4, 2) := by decide +kernel
theorem dX9_rooms_90 : decode cX9_rooms 90 = .ok (.iaload, 1) := by decide +kernel
theorem dX9_rooms_91 : decode cX9_rooms 91 = .ok (.iaload, 1) := by decide +kernel
theorem dX9_rooms_92 : decode cX9_rooms 92 = .ok (.iastore, 1) := by decide +kernel
theorem dX9_rooms_93 : decode cX9_rooms 93 = .ok (.iinc 4 1, 3) := by decide +kernel
theorem dX9_rooms_96 : decode cX9_rooms 96 = .ok (.goto (-31), 3) := by decide +kernel
theorem dX9_rooms_99 : decode cX9_rooms 99 = .ok (.aload_n 0, 1) := by decide +kernel
theorem dX9_rooms_100 : decode cX9_rooms 100 = .ok (.invokevirtual 234, 3) := by decide +kernel
theorem dX9_rooms_103 : decode cX9_rooms 103 = .ok (.invokestatic 202, 3) := by decide +kernel
theorem dX9_rooms_106 : decode cX9_rooms 106 = .ok (.istore 4, 2) := by decide +kernel
theorem dX9_rooms_108 : decode cX9_rooms 108 = .ok (.iconst 0, 1) := by decide +kernel
theorem dX9_rooms_109 : decode cX9_rooms 109 = .ok (.istore 5, 2) := by decide +kernel
theorem dX9_rooms_111 : decode cX9_rooms 111 = .ok (.iload 5, 2) := by decide +kernel
theorem dX9_rooms_113 : decode cX9_rooms 113 = .ok (.aload_n 0, 1) := by decide +kernel
theorem dX9_rooms_114 : decode cX9_rooms 114 = .ok (.getfield 153, 3) := by decide +kernel
theorem dX9_rooms_117 : decode cX9_rooms 117 = .ok (.if_icmp .ge 29, 3) := by decide +kernel
theorem dX9_rooms_120 : decode cX9_rooms 120 = .ok (.iload 4, 2) := by decide +kernel
theorem dX9_rooms_122 : decode cX9_rooms 122 = .ok (.iload_n 2, 1) := by decide +kernel
theorem dX9_rooms_123 : decode cX9_rooms 123 = .ok (.if_icmp .le 23, 3) := by decide +kernel
theorem dX9_rooms_126 : decode cX9_rooms 126 = .ok (.aload_n 0, 1) := by decide +kernel
theorem dX9_rooms_127 : decode cX9_rooms 127 = .ok (.getfield 74, 3) := by decide +kernel
theorem dX9_rooms_130 : decode cX9_rooms 130 = .ok (.iload 5, 2) := by decide +kernel
theorem dX9_rooms_132 : decode cX9_rooms 132 = .ok (.aload_n 0, 1) := by decide +kernel
theorem dX9_rooms_133 : decode cX9_rooms 133 = .ok (.getfield 71, 3) := by decide +kernel
theorem dX9_rooms_136 : decode cX9_rooms 136 = .ok (.iload 5, 2) := by decide +kernel
theorem dX9_rooms_138 : decode cX9_rooms 138 = .ok (.iaload, 1) := by decide +kernel
theorem dX9_rooms_139 : decode cX9_rooms 139 = .ok (.iastore, 1) := by decide +kernel
theorem dX9_rooms_140 : decode cX9_rooms 140 = .ok (.iinc 5 1, 3) := by decide +kernel
theorem dX9_rooms_143 : decode cX9_rooms 143 = .ok (.goto (-32), 3) := by decide +kernel
theorem dX9_rooms_146 : decode cX9_rooms 146 = .ok (.iload 4, 2) := by decide +kernel
theorem dX9_rooms_148 : decode cX9_rooms 148 = .ok (.iload_n 2, 1) := by decide +kernel
theorem dX9_rooms_149 : decode cX9_rooms 149 = .ok (.if_icmp .le 8, 3) := by decide +kernel
theorem dX9_rooms_152 : decode cX9_rooms 152 = .ok (.iload 4, 2) := by decide +kernel
theorem dX9_rooms_154 : decode cX9_rooms 154 = .ok (.goto 4, 3) := by decide +kernel
theorem dX9_rooms_157 : decode cX9_rooms 157 = .ok (.iload_n 2, 1) := by decide +kernel
theorem dX9_rooms_158 : decode cX9_rooms 158 = .ok (.istore_n 2, 1) := by decide +kernel
theorem dX9_rooms_159 : decode cX9_rooms 159 = .ok (.aload_n 0, 1) := by decide +kernel
theorem dX9_rooms_160 : decode cX9_rooms 160 = .ok (.invokevirtual 238, 3) := by decide +kernel
theorem dX9_rooms_163 : decode cX9_rooms 163 = .ok (.istore_n 3, 1) := by decide +kernel
theorem dX9_rooms_164 : decode cX9_rooms 164 = .ok (.goto (-106), 3) := by decide +kernel
theorem dX9_rooms_167 : decode cX9_rooms 167 = .ok (.aload_n 0, 1) := by decide +kernel
theorem dX9_rooms_168 : decode cX9_rooms 168 = .ok (.iload_n 1, 1) := by decide +kernel
theorem dX9_rooms_169 : decode cX9_rooms 169 = .ok (.aload_n 0, 1) := by decide +kernel
theorem dX9_rooms_170 : decode cX9_rooms 170 = .ok (.getfield 153, 3) := by decide +kernel
theorem dX9_rooms_173 : decode cX9_rooms 173 = .ok (.invokevirtual 242, 3) := by decide +kernel
theorem dX9_rooms_176 : decode cX9_rooms 176 = .ok (.pop, 1) := by decide +kernel
theorem dX9_rooms_177 : decode cX9_rooms 177 = .ok (.iconst 0, 1) := by decide +kernel
theorem dX9_rooms_178 : decode cX9_rooms 178 = .ok (.istore 4, 2) := by decide +kernel
theorem dX9_rooms_180 : decode cX9_rooms 180 = .ok (.iload 4, 2) := by decide +kernel
theorem dX9_rooms_182 : decode cX9_rooms 182 = .ok (.aload_n 0, 1) := by decide +kernel
theorem dX9_rooms_183 : decode cX9_rooms 183 = .ok (.getfield 153, 3) := by decide +kernel
theorem dX9_rooms_186 : decode cX9_rooms 186 = .ok (.if_icmp .ge 42, 3) := by decide +kernel
theorem dX9_rooms_189 : decode cX9_rooms 189 = .ok (.aload_n 0, 1) := by decide +kernel
theorem dX9_rooms_190 : decode cX9_rooms 190 = .ok (.getfield 25, 3) := by decide +kernel
theorem dX9_rooms_193 : decode cX9_rooms 193 = .ok (.iload 4, 2) := by decide +kernel
theorem dX9_rooms_195 : decode cX9_rooms 195 = .ok (.aload_n 0, 1) := by decide +kernel
theorem dX9_rooms_196 : decode cX9_rooms 196 = .ok (.getfield 77, 3) := by decide +kernel
theorem dX9_rooms_199 : decode cX9_rooms 199 = .ok (.iload 4, 2) := by decide +kernel
theorem dX9_rooms_201 : decode cX9_rooms 201 = .ok (.iaload, 1) := by decide +kernel
theorem dX9_rooms_202 : decode cX9_rooms 202 = .ok (.iastore, 1) := by decide +kernel
theorem dX9_rooms_203 : decode cX9_rooms 203 = .ok (.aload_n 0, 1) := by decide +kernel
theorem dX9_rooms_204 : decode cX9_rooms 204 = .ok (.getfield 13, 3) := by decide +kernel
theorem dX9_rooms_207 : decode cX9_rooms 207 = .ok (.bipush 40, 2) := by decide +kernel
theorem dX9_rooms_209 : decode cX9_rooms 209 = .ok (.iload_n 1, 1) := by decide +kernel
theorem dX9_rooms_210 : decode cX9_rooms 210 = .ok (.imul, 1) := by decide +kernel
theorem dX9_rooms_211 : decode cX9_rooms 211 = .ok (.iload 4, 2) := by decide +kernel
theorem dX9_rooms_213 : decode cX9_rooms 213 = .ok (.iadd, 1) := by decide +kernel
theorem dX9_rooms_214 : decode cX9_rooms 214 = .ok (.aload_n 0, 1) := by decide +kernel
theorem dX9_rooms_215 : decode cX9_rooms 215 = .ok (.getfield 74, 3) := by decide +kernel
theorem dX9_rooms_218 : decode cX9_rooms 218 = .ok (.iload 4, 2) := by decide +kernel
theorem dX9_rooms_220 : decode cX9_rooms 220 = .ok (.iaload, 1) := by decide +kernel
theorem dX9_rooms_221 : decode cX9_rooms 221 = .ok (.iastore, 1) := by decide +kernel
theorem dX9_rooms_222 : decode cX9_rooms 222 = .ok (.iinc 4 1, 3) := by decide +kernel
theorem dX9_rooms_225 : decode cX9_rooms 225 = .ok (.goto (-45), 3) := by decide +kernel
theorem dX9_rooms_228 : decode cX9_rooms 228 = .ok (.iload_n 2, 1) := by decide +kernel
theorem dX9_rooms_229 : decode cX9_rooms 229 = .ok (.ireturn, 1) := by decide +kernel
theorem dX9_change_0 : decode cX9_change 0 = .ok (.aload_n 0, 1) := by decide +kernel
theorem dX9_change_1 : decode cX9_change 1 = .ok (.getfield 25, 3) := by decide +kernel
theorem dX9_change_4 : decode cX9_change 4 = .ok (.iload_n 1, 1) := by decide +kernel
theorem dX9_change_5 : decode cX9_change 5 = .ok (.iaload, 1) := by decide +kernel
theorem dX9_change_6 : decode cX9_change 6 = .ok (.istore_n 3, 1) := by decide +kernel
theorem dX9_change_7 : decode cX9_change 7 = .ok (.aload_n 0, 1) := by decide +kernel
theorem dX9_change_8 : decode cX9_change 8 = .ok (.getfield 25, 3) := by decide +kernel
theorem dX9_change_11 : decode cX9_change 11 = .ok (.iload_n 1, 1) := by decide +kernel
theorem dX9_change_12 : decode cX9_change 12 = .ok (.aload_n 0, 1) := by decide +kernel
theorem dX9_change_13 : decode cX9_change 13 = .ok (.getfield 25, 3) := by decide +kernel
theorem dX9_change_16 : decode cX9_change 16 = .ok (.iload_n 2, 1) := by decide +kernel
theorem dX9_change_17 : decode cX9_change 17 = .ok (.iaload, 1) := by decide +kernel
theorem dX9_change_18 : decode cX9_change 18 = .ok (.iastore, 1) := by decide +kernel
theorem dX9_change_19 : decode cX9_change 19 = .ok (.aload_n 0, 1) := by decide +kernel
theorem dX9_change_20 : decode cX9_change 20 = .ok (.getfield 25, 3) := by decide +kernel
theorem dX9_change_23 : decode cX9_change 23 = .ok (.iload_n 2, 1) := by decide +kernel
theorem dX9_change_24 : decode cX9_change 24 = .ok (.iload_n 3, 1) := by decide +kernel
theorem dX9_change_25 : decode cX9_change 25 = .ok (.iastore, 1) := by decide +kernel
theorem dX9_change_26 : decode cX9_change 26 = .ok (.return_, 1) := by decide +kernel
set_option maxRecDepth 20000 in
theorem ggX9_swap_X9_safeSet : GoodIn wsX9_swap wsX9_safeSet := goodIn_r _ [6, 7, 8, 9, 10, 5, 11, 12, 13, 14, 15, 16, 1, 17, 18, 19, 20, 21, 22, 23, 24, 25, 26, 27, 28, 29, 30, 31, 32, 33, 34, 35, 36, 37, 38, 39, 40, 41, 42, 43, 56, 57, 58, 59, 60, 61, 62, 63, 64, 65, 66, 67, 68, 69, 70, 71, 72, 73, 74, 75, 76, 77, 78, 79, 80, 81, 82, 83, 84, 85, 86, 87, 88, 89, 90, 91] (by decide +kernel) (by decide +kernel)
set_option maxRecDepth 20000 in
theorem gX9_swap_X9_safeSet : GoodIn wsX9_swap (wsV RX9 234 RX9 yX9_safeSet wsX9_safeSet) := goodIn_app (goodIn_of _ (by decide +kernel)) ggX9_swap_X9_safeSet
set_option maxRecDepth 20000 in
theorem ggX9_swap_X9_ones : GoodIn wsX9_swap wsX9_ones := goodIn_r _ [46] (by decide +kernel) (by decide +kernel)
set_option maxRecDepth 20000 in
theorem gX9_swap_X9_ones : GoodIn wsX9_swap (va_wsS RX9 202 yX9_ones wsX9_ones) := goodIn_app (goodIn_of _ (by decide +kernel)) ggX9_swap_X9_ones
set_option maxRecDepth 20000 in
theorem ggX9_swap_X9_change : GoodIn wsX9_swap wsX9_change := goodIn_r _ [50, 18, 56, 57, 58, 59, 60, 61, 62, 63, 64, 65, 66, 67, 68, 69, 70, 71, 72, 73, 74, 75, 76, 77, 78, 79, 80, 81, 82, 83, 84, 85, 86, 87, 88, 89, 90, 91] (by decide +kernel) (by decide +kernel)
set_option maxRecDepth 20000 in
theorem gX9_swap_X9_change : GoodIn wsX9_swap (wsV RX9 245 RX9 yX9_change wsX9_change) := goodIn_app (goodIn_of _ (by decide +kernel)) ggX9_swap_X9_change
set_option maxRecDepth 20000 in
theorem ggX9_swap_X9_say : GoodIn wsX9_swap wsX9_say := goodIn_r _ [54, 55, 56, 57, 58, 59, 60, 61, 62, 63, 64, 65, 66, 67, 68, 69, 70, 71, 72, 73, 74, 75, 76, 77, 78, 79, 80, 81, 82, 83, 84, 85, 86, 87, 88, 89, 90, 91] (by decide +kernel) (by decide +kernel)
set_option maxRecDepth 20000 in
theorem gX9_swap_X9_say : GoodIn wsX9_swap (wsV RX9 116 RX9 yX9_say wsX9_say) := goodIn_app (goodIn_of _ (by decide +kernel)) ggX9_swap_X9_say
theorem dX9_swap_0 : decode cX9_swap 0 = .ok (.aload_n 0, 1) := by decide +kernel
theorem dX9_swap_1 : decode cX9_swap 1 = .ok (.invokevirtual 234, 3) := by decide +kernel
theorem dX9_swap_4 : decode cX9_swap 4 = .ok (.invokestatic 202, 3) := by decide +kernel
theorem dX9_swap_7 : decode cX9_swap 7 = .ok (.istore_n 1, 1) := by decide +kernel
theorem dX9_swap_8 : decode cX9_swap 8 = .ok (.bipush (-9), 2) := by decide +kernel
theorem dX9_swap_10 : decode cX9_swap 10 = .ok (.istore_n 2, 1) := by decide +kernel
theorem dX9_swap_11 : decode cX9_swap 11 = .ok (.iconst 0, 1) := by decide +kernel
theorem dX9_swap_12 : decode cX9_swap 12 = .ok (.istore_n 3, 1) := by decide +kernel
theorem dX9_swap_13 : decode cX9_swap 13 = .ok (.iload_n 3, 1) := by decide +kernel
theorem dX9_swap_14 : decode cX9_swap 14 = .ok (.aload_n 0, 1) := by decide +kernel
theorem dX9_swap_15 : decode cX9_swap 15 = .ok (.getfield 153, 3) := by decide +kernel
theorem dX9_swap_18 : decode cX9_swap 18 = .ok (.if_icmp .ge 83, 3) := by decide +kernel
theorem dX9_swap_21 : decode cX9_swap 21 = .ok (.iload_n 3, 1) := by decide +kernel
theorem dX9_swap_22 : decode cX9_swap 22 = .ok (.iconst 1, 1) := by decide +kernel
theorem dX9_swap_23 : decode cX9_swap 23 = .ok (.iadd, 1) := by decide +kernel
theorem dX9_swap_24 : decode cX9_swap 24 = .ok (.istore 4, 2) := by decide +kernel
theorem dX9_swap_26 : decode cX9_swap 26 = .ok (.iload 4, 2) := by decide +kernel
theorem dX9_swap_28 : decode cX9_swap 28 = .ok (.aload_n 0, 1) := by decide +kernel
theorem dX9_swap_29 : decode cX9_swap 29 = .ok (.getfield 153, 3) := by decide +kernel
theorem dX9_swap_32 : decode cX9_swap 32 = .ok (.if_icmp .ge 63, 3) := by decide +kernel
theorem dX9_swap_35 : decode cX9_swap 35 = .ok (.aload_n 0, 1) := by decide +kernel
theorem dX9_swap_36 : decode cX9_swap 36 = .ok (.iload_n 3, 1) := by decide +kernel
theorem dX9_swap_37 : decode cX9_swap 37 = .ok (.iload 4, 2) := by decide +kernel
theorem dX9_swap_39 : decode cX9_swap 39 = .ok (.invokevirtual 245, 3) := by decide +kernel
theorem dX9_swap_42 : decode cX9_swap 42 = .ok (.aload_n 0, 1) := by decide +kernel
theorem dX9_swap_43 : decode cX9_swap 43 = .ok (.invokevirtual 234, 3) := by decide +kernel
theorem dX9_swap_46 : decode cX9_swap 46 = .ok (.invokestatic 202, 3) := by decide +kernel
theorem dX9_swap_49 : decode cX9_swap 49 = .ok (.istore 5, 2) := by decide +kernel
theorem dX9_swap_51 : decode cX9_swap 51 = .ok (.aload_n 0, 1) := by decide +kernel
theorem dX9_swap_52 : decode cX9_swap 52 = .ok (.iload_n 3, 1) := by decide +kernel
theorem dX9_swap_53 : decode cX9_swap 53 = .ok (.iload 4, 2) := by decide +kernel
theorem dX9_swap_55 : decode cX9_swap 55 = .ok (.invokevirtual 245, 3) := by decide +kernel
theorem dX9_swap_58 : decode cX9_swap 58 = .ok (.iload 5, 2) := by decide +kernel
theorem dX9_swap_60 : decode cX9_swap 60 = .ok (.iload_n 1, 1) := by decide +kernel
theorem dX9_swap_61 : decode cX9_swap 61 = .ok (.if_icmp .le 13, 3) := by decide +kernel
theorem dX9_swap_64 : decode cX9_swap 64 = .ok (.bipush 10, 2) := by decide +kernel
theorem dX9_swap_66 : decode cX9_swap 66 = .ok (.iload_n 3, 1) := by decide +kernel
theorem dX9_swap_67 : decode cX9_swap 67 = .ok (.imul, 1) := by decide +kernel
theorem dX9_swap_68 : decode cX9_swap 68 = .ok (.iload 4, 2) := by decide +kernel
theorem dX9_swap_70 : decode cX9_swap 70 = .ok (.iadd, 1) := by decide +kernel
theorem dX9_swap_71 : decode cX9_swap 71 = .ok (.goto 4, 3) := by decide +kernel
theorem dX9_swap_74 : decode cX9_swap 74 = .ok (.iload_n 2, 1) := by decide +kernel
theorem dX9_swap_75 : decode cX9_swap 75 = .ok (.istore_n 2, 1) := by decide +kernel
theorem dX9_swap_76 : decode cX9_swap 76 = .ok (.iload 5, 2) := by decide +kernel
theorem dX9_swap_78 : decode cX9_swap 78 = .ok (.iload_n 1, 1) := by decide +kernel
theorem dX9_swap_79 : decode cX9_swap 79 = .ok (.if_icmp .le 8, 3) := by decide +kernel
theorem dX9_swap_82 : decode cX9_swap 82 = .ok (.iload 5, 2) := by decide +kernel
theorem dX9_swap_84 : decode cX9_swap 84 = .ok (.goto 4, 3) := by decide +kernel
theorem dX9_swap_87 : decode cX9_swap 87 = .ok (.iload_n 1, 1) := by decide +kernel
theorem dX9_swap_88 : decode cX9_swap 88 = .ok (.istore_n 1, 1) := by decide +kernel
theorem dX9_swap_89 : decode cX9_swap 89 = .ok (.iinc 4 1, 3) := by decide +kernel
theorem dX9_swap_92 : decode cX9_swap 92 = .ok (.goto (-66), 3) := by decide +kernel
theorem dX9_swap_95 : decode cX9_swap 95 = .ok (.iinc 3 1, 3) := by decide +kernel
theorem dX9_swap_98 : decode cX9_swap 98 = .ok (.goto (-85), 3) := by decide +kernel
theorem dX9_swap_101 : decode cX9_swap 101 = .ok (.iload_n 2, 1) := by decide +kernel
theorem dX9_swap_102 : decode cX9_swap 102 = .ok (.bipush (-9), 2) := by decide +kernel
theorem dX9_swap_104 : decode cX9_swap 104 = .ok (.if_icmp .ne 8, 3) := by decide +kernel
theorem dX9_swap_107 : decode cX9_swap 107 = .ok (.bipush (-9), 2) := by decide +kernel
theorem dX9_swap_109 : decode cX9_swap 109 = .ok (.goto 9, 3) := by decide +kernel
theorem dX9_swap_112 : decode cX9_swap 112 = .ok (.aload_n 0, 1) := by decide +kernel
theorem dX9_swap_113 : decode cX9_swap 113 = .ok (.iload_n 2, 1) := by decide +kernel
theorem dX9_swap_114 : decode cX9_swap 114 = .ok (.iload_n 1, 1) := by decide +kernel
theorem dX9_swap_115 : decode cX9_swap 115 = .ok (.invokevirtual 116, 3) := by decide +kernel
theorem dX9_swap_118 : decode cX9_swap 118 = .ok (.ireturn, 1) := by decide +kernel
theorem dX9_nextPasted_0 : decode cX9_nextPasted 0 = .ok (.aload_n 0, 1) := by decide +kernel
theorem dX9_nextPasted_1 : decode cX9_nextPasted 1 = .ok (.getfield 80, 3) := by decide +kernel
theorem dX9_nextPasted_4 : decode cX9_nextPasted 4 = .ok (.aload_n 0, 1) := by decide +kernel
theorem dX9_nextPasted_5 : decode cX9_nextPasted 5 = .ok (.getfield 150, 3) := by decide +kernel
theorem dX9_nextPasted_8 : decode cX9_nextPasted 8 = .ok (.iconst 1, 1) := by decide +kernel
theorem dX9_nextPasted_9 : decode cX9_nextPasted 9 = .ok (.isub, 1) := by decide +kernel
theorem dX9_nextPasted_10 : decode cX9_nextPasted 10 = .ok (.iaload, 1) := by decide +kernel
theorem dX9_nextPasted_11 : decode cX9_nextPasted 11 = .ok (.istore_n 1, 1) := by decide +kernel
theorem dX9_nextPasted_12 : decode cX9_nextPasted 12 = .ok (.aload_n 0, 1) := by decide +kernel
theorem dX9_nextPasted_13 : decode cX9_nextPasted 13 = .ok (.getfield 150, 3) := by decide +kernel
theorem dX9_nextPasted_16 : decode cX9_nextPasted 16 = .ok (.iconst 2, 1) := by decide +kernel
theorem dX9_nextPasted_17 : decode cX9_nextPasted 17 = .ok (.isub, 1) := by decide +kernel
theorem dX9_nextPasted_18 : decode cX9_nextPasted 18 = .ok (.istore_n 2, 1) := by decide +kernel
theorem dX9_nextPasted_19 : decode cX9_nextPasted 19 = .ok (.iload_n 2, 1) := by decide +kernel
theorem dX9_nextPasted_20 : decode cX9_nextPasted 20 = .ok (.ifCond .lt 22, 3) := by decide +kernel
theorem dX9_nextPasted_23 : decode cX9_nextPasted 23 = .ok (.iload_n 1, 1) := by decide +kernel
theorem dX9_nextPasted_24 : decode cX9_nextPasted 24 = .ok (.ifCond .ne 18, 3) := by decide +kernel
theorem dX9_nextPasted_27 : decode cX9_nextPasted 27 = .ok (.iload_n 1, 1) := by decide +kernel
theorem dX9_nextPasted_28 : decode cX9_nextPasted 28 = .ok (.aload_n 0, 1) := by decide +kernel
theorem dX9_nextPasted_29 : decode cX9_nextPasted 29 = .ok (.getfield 80, 3) := by decide +kernel
theorem dX9_nextPasted_32 : decode cX9_nextPasted 32 = .ok (.iload_n 2, 1) := by decide +kernel
theorem dX9_nextPasted_33 : decode cX9_nextPasted 33 = .ok (.iaload, 1) := by decide +kernel
theorem dX9_nextPasted_34 : decode cX9_nextPasted 34 = .ok (.iadd, 1) := by decide +kernel
theorem dX9_nextPasted_35 : decode cX9_nextPasted 35 = .ok (.istore_n 1, 1) := by decide +kernel
theorem dX9_nextPasted_36 : decode cX9_nextPasted 36 = .ok (.iinc 2 (-1), 3) := by decide +kernel
theorem dX9_nextPasted_39 : decode cX9_nextPasted 39 = .ok (.goto (-20), 3) := by decide +kernel
theorem dX9_nextPasted_42 : decode cX9_nextPasted 42 = .ok (.iload_n 2, 1) := by decide +kernel
theorem dX9_nextPasted_43 : decode cX9_nextPasted 43 = .ok (.ifCond .lt 7, 3) := by decide +kernel
theorem dX9_nextPasted_46 : decode cX9_nextPasted 46 = .ok (.iload_n 1, 1) := by decide +kernel
theorem dX9_nextPasted_47 : decode cX9_nextPasted 47 = .ok (.ifCond .ne 5, 3) := by decide +kernel
theorem dX9_nextPasted_50 : decode cX9_nextPasted 50 = .ok (.iconst 0, 1) := by decide +kernel
theorem dX9_nextPasted_51 : decode cX9_nextPasted 51 = .ok (.ireturn, 1) := by decide +kernel
theorem dX9_nextPasted_52 : decode cX9_nextPasted 52 = .ok (.aload_n 0, 1) := by decide +kernel
theorem dX9_nextPasted_53 : decode cX9_nextPasted 53 = .ok (.getfield 80, 3) := by decide +kernel
theorem dX9_nextPasted_56 : decode cX9_nextPasted 56 = .ok (.iload_n 2, 1) := by decide +kernel
theorem dX9_nextPasted_57 : decode cX9_nextPasted 57 = .ok (.dup2, 1) := by decide +kernel
theorem dX9_nextPasted_58 : decode cX9_nextPasted 58 = .ok (.iaload, 1) := by decide +kernel
theorem dX9_nextPasted_59 : decode cX9_nextPasted 59 = .ok (.iconst 1, 1) := by decide +kernel
theorem dX9_nextPasted_60 : decode cX9_nextPasted 60 = .ok (.iadd, 1) := by decide +kernel
theorem dX9_nextPasted_61 : decode cX9_nextPasted 61 = .ok (.iastore, 1) := by decide +kernel
theorem dX9_nextPasted_62 : decode cX9_nextPasted 62 = .ok (.iload_n 2, 1) := by decide +kernel
theorem dX9_nextPasted_63 : decode cX9_nextPasted 63 = .ok (.iconst 1, 1) := by decide +kernel
theorem dX9_nextPasted_64 : decode cX9_nextPasted 64 = .ok (.iadd, 1) := by decide +kernel
theorem dX9_nextPasted_65 : decode cX9_nextPasted 65 = .ok (.istore_n 3, 1) := by decide +kernel
theorem dX9_nextPasted_66 : decode cX9_nextPasted 66 = .ok (.iload_n 3, 1) := by decide +kernel
theorem dX9_nextPasted_67 : decode cX9_nextPasted 67 = .ok (.aload_n 0, 1) := by decide +kernel
theorem dX9_nextPasted_68 : decode cX9_nextPasted 68 = .ok (.getfield 150, 3) := by decide +kernel
theorem dX9_nextPasted_71 : decode cX9_nextPasted 71 = .ok (.if_icmp .ge 32, 3) := by decide +kernel
theorem dX9_nextPasted_74 : decode cX9_nextPasted 74 = .ok (.aload_n 0, 1) := by decide +kernel
theorem dX9_nextPasted_75 : decode cX9_nextPasted 75 = .ok (.getfield 80, 3) := by decide +kernel
theorem dX9_nextPasted_78 : decode cX9_nextPasted 78 = .ok (.iload_n 3, 1) := by decide +kernel
theorem dX9_nextPasted_79 : decode cX9_nextPasted 79 = .ok (.iload_n 3, 1) := by decide +kernel
theorem dX9_nextPasted_80 : decode cX9_nextPasted 80 = .ok (.aload_n 0, 1) := by decide +kernel
theorem dX9_nextPasted_81 : decode cX9_nextPasted 81 = .ok (.getfield 150, 3) := by decide +kernel
theorem dX9_nextPasted_84 : decode cX9_nextPasted 84 = .ok (.iconst 1, 1) := by decide +kernel
theorem dX9_nextPasted_85 : decode cX9_nextPasted 85 = .ok (.isub, 1) := by decide +kernel
theorem dX9_nextPasted_86 : decode cX9_nextPasted 86 = .ok (.if_icmp .ne 9, 3) := by decide +kernel
theorem dX9_nextPasted_89 : decode cX9_nextPasted 89 = .ok (.iload_n 1, 1) := by decide +kernel
theorem dX9_nextPasted_90 : decode cX9_nextPasted 90 = .ok (.iconst 1, 1) := by decide +kernel
theorem dX9_nextPasted_91 : decode cX9_nextPasted 91 = .ok (.isub, 1) := by decide +kernel
theorem dX9_nextPasted_92 : decode cX9_nextPasted 92 = .ok (.goto 4, 3) := by decide +kernel
theorem dX9_nextPasted_95 : decode cX9_nextPasted 95 = .ok (.iconst 0, 1) := by decide +kernel
theorem dX9_nextPasted_96 : decode cX9_nextPasted 96 = .ok (.iastore, 1) := by decide +kernel
theorem dX9_nextPasted_97 : decode cX9_nextPasted 97 = .ok (.iinc 3 1, 3) := by decide +kernel
theorem dX9_nextPasted_100 : decode cX9_nextPasted 100 = .ok (.goto (-34), 3) := by decide +kernel
theorem dX9_nextPasted_103 : decode cX9_nextPasted 103 = .ok (.iconst 1, 1) := by decide +kernel
theorem dX9_nextPasted_104 : decode cX9_nextPasted 104 = .ok (.ireturn, 1) := by decide +kernel
set_option maxRecDepth 20000 in
theorem ggX9_isSafePasted_X9_isSafe : GoodIn wsX9_isSafePasted wsX9_isSafe := goodIn_r _ [8, 9, 10, 11, 12, 7, 13, 14, 15, 16, 17, 18, 19, 20, 21, 22, 23, 24, 25, 26, 27, 28, 29, 30, 2, 31, 32, 33, 34, 35, 36, 37, 38, 39, 40, 41, 42, 43, 44, 45, 46, 47, 48, 49, 50, 51, 52, 53, 54, 55, 56, 57, 58, 59, 60, 61, 62, 63, 64, 65, 66, 67, 68, 69, 70, 71, 72, 73, 74, 75, 76] (by decide +kernel) (by decide +kernel)
set_option maxRecDepth 20000 in
theorem gX9_isSafePasted_X9_isSafe : GoodIn wsX9_isSafePasted (wsV RX9 224 RX9 yX9_isSafe wsX9_isSafe) := goodIn_app (goodIn_of _ (by decide +kernel)) ggX9_isSafePasted_X9_isSafe
theorem dX9_isSafePasted_0 : decode cX9_isSafePasted 0 = .ok (.iconst 0, 1) := by decide +kernel
theorem dX9_isSafePasted_1 : decode cX9_isSafePasted 1 = .ok (.istore_n 2, 1) := by decide +kernel
theorem dX9_isSafePasted_2 : decode cX9_isSafePasted 2 = .ok (.iload_n 2, 1) := by decide +kernel
theorem dX9_isSafePasted_3 : decode cX9_isSafePasted 3 = .ok (.aload_n 0, 1) := by decide +kernel
theorem dX9_isSafePasted_4 : decode cX9_isSafePasted 4 = .ok (.getfield 150, 3) := by decide +kernel
theorem dX9_isSafePasted_7 : decode cX9_isSafePasted 7 = .ok (.if_icmp .ge 24, 3) := by decide +kernel
theorem dX9_isSafePasted_10 : decode cX9_isSafePasted 10 = .ok (.aload_n 0, 1) := by decide +kernel
theorem dX9_isSafePasted_11 : decode cX9_isSafePasted 11 = .ok (.getfield 28, 3) := by decide +kernel
theorem dX9_isSafePasted_14 : decode cX9_isSafePasted 14 = .ok (.iload_n 2, 1) := by decide +kernel
theorem dX9_isSafePasted_15 : decode cX9_isSafePasted 15 = .ok (.dup2, 1) := by decide +kernel
theorem dX9_isSafePasted_16 : decode cX9_isSafePasted 16 = .ok (.iaload, 1) := by decide +kernel
theorem dX9_isSafePasted_17 : decode cX9_isSafePasted 17 = .ok (.aload_n 0, 1) := by decide +kernel
theorem dX9_isSafePasted_18 : decode cX9_isSafePasted 18 = .ok (.getfield 80, 3) := by decide +kernel
theorem dX9_isSafePasted_21 : decode cX9_isSafePasted 21 = .ok (.iload_n 2, 1) := by decide +kernel
theorem dX9_isSafePasted_22 : decode cX9_isSafePasted 22 = .ok (.iaload, 1) := by decide +kernel
theorem dX9_isSafePasted_23 : decode cX9_isSafePasted 23 = .ok (.iadd, 1) := by decide +kernel
theorem dX9_isSafePasted_24 : decode cX9_isSafePasted 24 = .ok (.iastore, 1) := by decide +kernel
theorem dX9_isSafePasted_25 : decode cX9_isSafePasted 25 = .ok (.iinc 2 1, 3) := by decide +kernel
theorem dX9_isSafePasted_28 : decode cX9_isSafePasted 28 = .ok (.goto (-26), 3) := by decide +kernel
theorem dX9_isSafePasted_31 : decode cX9_isSafePasted 31 = .ok (.aload_n 0, 1) := by decide +kernel
theorem dX9_isSafePasted_32 : decode cX9_isSafePasted 32 = .ok (.iload_n 1, 1) := by decide +kernel
theorem dX9_isSafePasted_33 : decode cX9_isSafePasted 33 = .ok (.iconst 0, 1) := by decide +kernel
theorem dX9_isSafePasted_34 : decode cX9_isSafePasted 34 = .ok (.invokevirtual 224, 3) := by decide +kernel
theorem dX9_isSafePasted_37 : decode cX9_isSafePasted 37 = .ok (.istore_n 2, 1) := by decide +kernel
theorem dX9_isSafePasted_38 : decode cX9_isSafePasted 38 = .ok (.iconst 0, 1) := by decide +kernel
theorem dX9_isSafePasted_39 : decode cX9_isSafePasted 39 = .ok (.istore_n 3, 1) := by decide +kernel
theorem dX9_isSafePasted_40 : decode cX9_isSafePasted 40 = .ok (.iload_n 3, 1) := by decide +kernel
theorem dX9_isSafePasted_41 : decode cX9_isSafePasted 41 = .ok (.aload_n 0, 1) := by decide +kernel
theorem dX9_isSafePasted_42 : decode cX9_isSafePasted 42 = .ok (.getfield 150, 3) := by decide +kernel
theorem dX9_isSafePasted_45 : decode cX9_isSafePasted 45 = .ok (.if_icmp .ge 24, 3) := by decide +kernel
theorem dX9_isSafePasted_48 : decode cX9_isSafePasted 48 = .ok (.aload_n 0, 1) := by decide +kernel
theorem dX9_isSafePasted_49 : decode cX9_isSafePasted 49 = .ok (.getfield 28, 3) := by decide +kernel
theorem dX9_isSafePasted_52 : decode cX9_isSafePasted 52 = .ok (.iload_n 3, 1) := by decide +kernel
theorem dX9_isSafePasted_53 : decode cX9_isSafePasted 53 = .ok (.dup2, 1) := by decide +kernel
theorem dX9_isSafePasted_54 : decode cX9_isSafePasted 54 = .ok (.iaload, 1) := by decide +kernel
theorem dX9_isSafePasted_55 : decode cX9_isSafePasted 55 = .ok (.aload_n 0, 1) := by decide +kernel
theorem dX9_isSafePasted_56 : decode cX9_isSafePasted 56 = .ok (.getfield 80, 3) := by decide +kernel
theorem dX9_isSafePasted_59 : decode cX9_isSafePasted 59 = .ok (.iload_n 3, 1) := by decide +kernel
theorem dX9_isSafePasted_60 : decode cX9_isSafePasted 60 = .ok (.iaload, 1) := by decide +kernel
theorem dX9_isSafePasted_61 : decode cX9_isSafePasted 61 = .ok (.isub, 1) := by decide +kernel
theorem dX9_isSafePasted_62 : decode cX9_isSafePasted 62 = .ok (.iastore, 1) := by decide +kernel
theorem dX9_isSafePasted_63 : decode cX9_isSafePasted 63 = .ok (.iinc 3 1, 3) := by decide +kernel
theorem dX9_isSafePasted_66 : decode cX9_isSafePasted 66 = .ok (.goto (-26), 3) := by decide +kernel
theorem dX9_isSafePasted_69 : decode cX9_isSafePasted 69 = .ok (.iload_n 2, 1) := by decide +kernel
theorem dX9_isSafePasted_70 : decode cX9_isSafePasted 70 = .ok (.ireturn, 1) := by decide +kernel
set_option maxRecDepth 20000 in
theorem ggX9_paste_X9_isRow : GoodIn wsX9_paste wsX9_isRow := goodIn_r _ [7, 8, 9, 10, 6, 11] (by decide +kernel) (by decide +kernel)
set_option maxRecDepth 20000 in
theorem gX9_paste_X9_isRow : GoodIn wsX9_paste (va_wsS RX9 104 yX9_isRow wsX9_isRow) := goodIn_app (goodIn_of _ (by decide +kernel)) ggX9_paste_X9_isRow
set_option maxRecDepth 20000 in
theorem ggX9_paste_X9_lacksTalk : GoodIn wsX9_paste wsX9_lacksTalk := goodIn_r _ [15, 16, 17, 18, 19, 6, 20, 21, 22, 73, 74, 75, 76, 77, 78, 79, 80, 81, 82, 83, 84, 85, 86, 87, 88, 89, 90, 91, 92, 93, 94, 95, 96, 97, 98, 99, 100, 101, 102, 103, 104, 105, 106, 107, 108] (by decide +kernel) (by decide +kernel)
set_option maxRecDepth 20000 in
theorem gX9_paste_X9_lacksTalk : GoodIn wsX9_paste (wsV RX9 221 RX9 yX9_lacksTalk wsX9_lacksTalk) := goodIn_app (goodIn_of _ (by decide +kernel)) ggX9_paste_X9_lacksTalk
set_option maxRecDepth 20000 in
theorem ggX9_paste_X9_isSafePasted : GoodIn wsX9_paste wsX9_isSafePasted := goodIn_r _ [26, 1, 27, 2, 28, 29, 30, 6, 31, 32, 33, 34, 35, 36, 37, 38, 39, 40, 41, 42, 43, 44, 45, 46, 47, 48, 49, 50, 51, 52, 53, 54, 55, 56, 57, 58, 59, 60, 61, 62, 63, 73, 74, 75, 76, 77, 78, 79, 80, 81, 82, 83, 84, 85, 86, 87, 88, 89, 90, 91, 92, 93, 94, 95, 96, 97, 98, 99, 100, 101, 102, 103, 104, 105, 106, 107, 108] (by decide +kernel) (by decide +kernel)
set_option maxRecDepth 20000 in
theorem gX9_paste_X9_isSafePasted : GoodIn wsX9_paste (wsV RX9 249 RX9 yX9_isSafePasted wsX9_isSafePasted) := goodIn_app (goodIn_of _ (by decide +kernel)) ggX9_paste_X9_isSafePasted
set_option maxRecDepth 20000 in
theorem ggX9_paste_X9_row : GoodIn wsX9_paste wsX9_row := goodIn_r _ [67, 68, 3, 4, 5, 6, 7, 8, 9, 10, 11, 17, 18, 19, 20, 21, 22, 73, 74, 75, 76, 77, 78, 79, 80, 81, 82, 83, 84, 85, 86, 87, 88, 89, 90, 91, 92, 93, 94, 95, 96, 97, 98, 99, 100, 101, 102, 103, 104, 105, 106, 107, 108] (by decide +kernel) (by decide +kernel)
set_option maxRecDepth 20000 in
theorem gX9_paste_X9_row : GoodIn wsX9_paste (wsV RX9 242 RX9 yX9_row wsX9_row) := goodIn_app (goodIn_of _ (by decide +kernel)) ggX9_paste_X9_row
set_option maxRecDepth 20000 in
theorem ggX9_paste_X9_nextPasted : GoodIn wsX9_paste wsX9_nextPasted := goodIn_r _ [72, 2, 1, 73, 74, 75, 76, 77, 78, 79, 80, 81, 82, 83, 84, 85, 86, 87, 88, 89, 90, 91, 92, 93, 94, 95, 96, 97, 98, 99, 100, 101, 102, 103, 104, 105, 106, 107, 108] (by decide +kernel) (by decide +kernel)
set_option maxRecDepth 20000 in
theorem gX9_paste_X9_nextPasted : GoodIn wsX9_paste (wsV RX9 252 RX9 yX9_nextPasted wsX9_nextPasted) := goodIn_app (goodIn_of _ (by decide +kernel)) ggX9_paste_X9_nextPasted
theorem dX9_paste_0 : decode cX9_paste 0 = .ok (.iload_n 1, 1) := by decide +kernel
theorem dX9_paste_1 : decode cX9_paste 1 = .ok (.ifCond .lt 10, 3) := by decide +kernel
theorem dX9_paste_4 : decode cX9_paste 4 = .ok (.iload_n 2, 1) := by decide +kernel
theorem dX9_paste_5 : decode cX9_paste 5 = .ok (.invokestatic 104, 3) := by decide +kernel
theorem dX9_paste_8 : decode cX9_paste 8 = .ok (.ifCond .ne 5, 3) := by decide +kernel
theorem dX9_paste_11 : decode cX9_paste 11 = .ok (.iconst (-1), 1) := by decide +kernel
theorem dX9_paste_12 : decode cX9_paste 12 = .ok (.ireturn, 1) := by decide +kernel
theorem dX9_paste_13 : decode cX9_paste 13 = .ok (.aload_n 0, 1) := by decide +kernel
theorem dX9_paste_14 : decode cX9_paste 14 = .ok (.iload_n 1, 1) := by decide +kernel
theorem dX9_paste_15 : decode cX9_paste 15 = .ok (.invokevirtual 221, 3) := by decide +kernel
theorem dX9_paste_18 : decode cX9_paste 18 = .ok (.istore_n 3, 1) := by decide +kernel
theorem dX9_paste_19 : decode cX9_paste 19 = .ok (.iload_n 3, 1) := by decide +kernel
theorem dX9_paste_20 : decode cX9_paste 20 = .ok (.ifCond .ge 5, 3) := by decide +kernel
theorem dX9_paste_23 : decode cX9_paste 23 = .ok (.iload_n 3, 1) := by decide +kernel
theorem dX9_paste_24 : decode cX9_paste 24 = .ok (.ireturn, 1) := by decide +kernel
theorem dX9_paste_25 : decode cX9_paste 25 = .ok (.iconst 0, 1) := by decide +kernel
theorem dX9_paste_26 : decode cX9_paste 26 = .ok (.istore 4, 2) := by decide +kernel
theorem dX9_paste_28 : decode cX9_paste 28 = .ok (.iload 4, 2) := by decide +kernel
theorem dX9_paste_30 : decode cX9_paste 30 = .ok (.bipush 6, 2) := by decide +kernel
theorem dX9_paste_32 : decode cX9_paste 32 = .ok (.if_icmp .gt 126, 3) := by decide +kernel
theorem dX9_paste_35 : decode cX9_paste 35 = .ok (.iconst 0, 1) := by decide +kernel
theorem dX9_paste_36 : decode cX9_paste 36 = .ok (.istore 5, 2) := by decide +kernel
theorem dX9_paste_38 : decode cX9_paste 38 = .ok (.iload 5, 2) := by decide +kernel
theorem dX9_paste_40 : decode cX9_paste 40 = .ok (.aload_n 0, 1) := by decide +kernel
theorem dX9_paste_41 : decode cX9_paste 41 = .ok (.getfield 150, 3) := by decide +kernel
theorem dX9_paste_44 : decode cX9_paste 44 = .ok (.if_icmp .ge 33, 3) := by decide +kernel
theorem dX9_paste_47 : decode cX9_paste 47 = .ok (.aload_n 0, 1) := by decide +kernel
theorem dX9_paste_48 : decode cX9_paste 48 = .ok (.getfield 80, 3) := by decide +kernel
theorem dX9_paste_51 : decode cX9_paste 51 = .ok (.iload 5, 2) := by decide +kernel
theorem dX9_paste_53 : decode cX9_paste 53 = .ok (.iload 5, 2) := by decide +kernel
theorem dX9_paste_55 : decode cX9_paste 55 = .ok (.aload_n 0, 1) := by decide +kernel
theorem dX9_paste_56 : decode cX9_paste 56 = .ok (.getfield 150, 3) := by decide +kernel
theorem dX9_paste_59 : decode cX9_paste 59 = .ok (.iconst 1, 1) := by decide +kernel
theorem dX9_paste_60 : decode cX9_paste 60 = .ok (.isub, 1) := by decide +kernel
theorem dX9_paste_61 : decode cX9_paste 61 = .ok (.if_icmp .ne 8, 3) := by decide +kernel
theorem dX9_paste_64 : decode cX9_paste 64 = .ok (.iload 4, 2) := by decide +kernel
theorem dX9_paste_66 : decode cX9_paste 66 = .ok (.goto 4, 3) := by decide +kernel
theorem dX9_paste_69 : decode cX9_paste 69 = .ok (.iconst 0, 1) := by decide +kernel
theorem dX9_paste_70 : decode cX9_paste 70 = .ok (.iastore, 1) := by decide +kernel
theorem dX9_paste_71 : decode cX9_paste 71 = .ok (.iinc 5 1, 3) := by decide +kernel
theorem dX9_paste_74 : decode cX9_paste 74 = .ok (.goto (-36), 3) := by decide +kernel
theorem dX9_paste_77 : decode cX9_paste 77 = .ok (.iconst 1, 1) := by decide +kernel
theorem dX9_paste_78 : decode cX9_paste 78 = .ok (.istore 5, 2) := by decide +kernel
theorem dX9_paste_80 : decode cX9_paste 80 = .ok (.iload 5, 2) := by decide +kernel
theorem dX9_paste_82 : decode cX9_paste 82 = .ok (.ifCond .eq 70, 3) := by decide +kernel
theorem dX9_paste_85 : decode cX9_paste 85 = .ok (.aload_n 0, 1) := by decide +kernel
theorem dX9_paste_86 : decode cX9_paste 86 = .ok (.iload_n 1, 1) := by decide +kernel
theorem dX9_paste_87 : decode cX9_paste 87 = .ok (.invokevirtual 249, 3) := by decide +kernel
theorem dX9_paste_90 : decode cX9_paste 90 = .ok (.ifCond .eq 53, 3) := by decide +kernel
theorem dX9_paste_93 : decode cX9_paste 93 = .ok (.aload_n 0, 1) := by decide +kernel
theorem dX9_paste_94 : decode cX9_paste 94 = .ok (.iload_n 2, 1) := by decide +kernel
theorem dX9_paste_95 : decode cX9_paste 95 = .ok (.aload_n 0, 1) := by decide +kernel
theorem dX9_paste_96 : decode cX9_paste 96 = .ok (.getfield 150, 3) := by decide +kernel
theorem dX9_paste_99 : decode cX9_paste 99 = .ok (.invokevirtual 242, 3) := by decide +kernel
theorem dX9_paste_102 : decode cX9_paste 102 = .ok (.pop, 1) := by decide +kernel
theorem dX9_paste_103 : decode cX9_paste 103 = .ok (.iconst 0, 1) := by decide +kernel
theorem dX9_paste_104 : decode cX9_paste 104 = .ok (.istore 6, 2) := by decide +kernel
theorem dX9_paste_106 : decode cX9_paste 106 = .ok (.iload 6, 2) := by decide +kernel
theorem dX9_paste_108 : decode cX9_paste 108 = .ok (.aload_n 0, 1) := by decide +kernel
theorem dX9_paste_109 : decode cX9_paste 109 = .ok (.getfield 150, 3) := by decide +kernel
theorem dX9_paste_112 : decode cX9_paste 112 = .ok (.if_icmp .ge 28, 3) := by decide +kernel
theorem dX9_paste_115 : decode cX9_paste 115 = .ok (.aload_n 0, 1) := by decide +kernel
theorem dX9_paste_116 : decode cX9_paste 116 = .ok (.getfield 13, 3) := by decide +kernel
theorem dX9_paste_119 : decode cX9_paste 119 = .ok (.bipush 40, 2) := by decide +kernel
theorem dX9_paste_121 : decode cX9_paste 121 = .ok (.iload_n 2, 1) := by decide +kernel
theorem dX9_paste_122 : decode cX9_paste 122 = .ok (.imul, 1) := by decide +kernel
theorem dX9_paste_123 : decode cX9_paste 123 = .ok (.iload 6, 2) := by decide +kernel
theorem dX9_paste_125 : decode cX9_paste 125 = .ok (.iadd, 1) := by decide +kernel
theorem dX9_paste_126 : decode cX9_paste 126 = .ok (.aload_n 0, 1) := by decide +kernel
theorem dX9_paste_127 : decode cX9_paste 127 = .ok (.getfield 80, 3) := by decide +kernel
theorem dX9_paste_130 : decode cX9_paste 130 = .ok (.iload 6, 2) := by decide +kernel
theorem dX9_paste_132 : decode cX9_paste 132 = .ok (.iaload, 1) := by decide +kernel
theorem dX9_paste_133 : decode cX9_paste 133 = .ok (.iastore, 1) := by decide +kernel
theorem dX9_paste_134 : decode cX9_paste 134 = .ok (.iinc 6 1, 3) := by decide +kernel
theorem dX9_paste_137 : decode cX9_paste 137 = .ok (.goto (-31), 3) := by decide +kernel
theorem dX9_paste_140 : decode cX9_paste 140 = .ok (.iload 4, 2) := by decide +kernel
theorem dX9_paste_142 : decode cX9_paste 142 = .ok (.ireturn, 1) := by decide +kernel
theorem dX9_paste_143 : decode cX9_paste 143 = .ok (.aload_n 0, 1) := by decide +kernel
theorem dX9_paste_144 : decode cX9_paste 144 = .ok (.invokevirtual 252, 3) := by decide +kernel
theorem dX9_paste_147 : decode cX9_paste 147 = .ok (.istore 5, 2) := by decide +kernel
theorem dX9_paste_149 : decode cX9_paste 149 = .ok (.goto (-69), 3) := by decide +kernel
theorem dX9_paste_152 : decode cX9_paste 152 = .ok (.iinc 4 1, 3) := by decide +kernel
theorem dX9_paste_155 : decode cX9_paste 155 = .ok (.goto (-127), 3) := by decide +kernel
theorem dX9_paste_158 : decode cX9_paste 158 = .ok (.bipush (-9), 2) := by decide +kernel
theorem dX9_paste_160 : decode cX9_paste 160 = .ok (.ireturn, 1) := by decide +kernel
set_option maxRecDepth 20000 in
theorem ggX9_tearOff_X9_areTwo : GoodIn wsX9_tearOff wsX9_areTwo := goodIn_r _ [7, 8, 9, 10, 6, 11, 12, 13, 14, 15, 55, 56, 57, 58, 59, 60, 61, 62, 63, 64, 65, 66, 67, 68, 69, 70, 71, 72, 73, 74, 75, 76, 77, 78, 79, 80, 81, 82, 83, 84, 85, 86, 87, 88, 89, 90] (by decide +kernel) (by decide +kernel)
set_option maxRecDepth 20000 in
theorem gX9_tearOff_X9_areTwo : GoodIn wsX9_tearOff (wsV RX9 213 RX9 yX9_areTwo wsX9_areTwo) := goodIn_app (goodIn_of _ (by decide +kernel)) ggX9_tearOff_X9_areTwo
set_option maxRecDepth 20000 in
theorem ggX9_tearOff_X9_doesHear : GoodIn wsX9_tearOff wsX9_doesHear := goodIn_r _ [19, 20, 21, 22, 6, 23, 12, 24, 25, 26, 27, 28, 29, 30, 31, 32, 33, 34, 35, 36, 37, 38, 39, 2, 40, 41, 42, 43, 44, 45, 46, 47, 48, 49, 55, 56, 57, 58, 59, 60, 61, 62, 63, 64, 65, 66, 67, 68, 69, 70, 71, 72, 73, 74, 75, 76, 77, 78, 79, 80, 81, 82, 83, 84, 85, 86, 87, 88, 89, 90] (by decide +kernel) (by decide +kernel)
set_option maxRecDepth 20000 in
theorem gX9_tearOff_X9_doesHear : GoodIn wsX9_tearOff (wsV RX9 196 RX9 yX9_doesHear wsX9_doesHear) := goodIn_app (goodIn_of _ (by decide +kernel)) ggX9_tearOff_X9_doesHear
set_option maxRecDepth 20000 in
theorem ggX9_tearOff_X9_say : GoodIn wsX9_tearOff wsX9_say := goodIn_r _ [53, 54, 55, 56, 57, 58, 59, 60, 61, 62, 63, 64, 65, 66, 67, 68, 69, 70, 71, 72, 73, 74, 75, 76, 77, 78, 79, 80, 81, 82, 83, 84, 85, 86, 87, 88, 89, 90] (by decide +kernel) (by decide +kernel)
set_option maxRecDepth 20000 in
theorem gX9_tearOff_X9_say : GoodIn wsX9_tearOff (wsV RX9 116 RX9 yX9_say wsX9_say) := goodIn_app (goodIn_of _ (by decide +kernel)) ggX9_tearOff_X9_say
theorem dX9_tearOff_0 : decode cX9_tearOff 0 = .ok (.aload_n 0, 1) := by decide +kernel
theorem dX9_tearOff_1 : decode cX9_tearOff 1 = .ok (.iload_n 1, 1) := by decide +kernel
theorem dX9_tearOff_2 : decode cX9_tearOff 2 = .ok (.iload_n 2, 1) := by decide +kernel
theorem dX9_tearOff_3 : decode cX9_tearOff 3 = .ok (.invokevirtual 213, 3) := by decide +kernel
theorem dX9_tearOff_6 : decode cX9_tearOff 6 = .ok (.ifCond .ne 5, 3) := by decide +kernel
theorem dX9_tearOff_9 : decode cX9_tearOff 9 = .ok (.iconst (-1), 1) := by decide +kernel
theorem dX9_tearOff_10 : decode cX9_tearOff 10 = .ok (.ireturn, 1) := by decide +kernel
theorem dX9_tearOff_11 : decode cX9_tearOff 11 = .ok (.aload_n 0, 1) := by decide +kernel
theorem dX9_tearOff_12 : decode cX9_tearOff 12 = .ok (.iload_n 1, 1) := by decide +kernel
theorem dX9_tearOff_13 : decode cX9_tearOff 13 = .ok (.iload_n 2, 1) := by decide +kernel
theorem dX9_tearOff_14 : decode cX9_tearOff 14 = .ok (.invokevirtual 196, 3) := by decide +kernel
theorem dX9_tearOff_17 : decode cX9_tearOff 17 = .ok (.ifCond .eq 11, 3) := by decide +kernel
theorem dX9_tearOff_20 : decode cX9_tearOff 20 = .ok (.aload_n 0, 1) := by decide +kernel
theorem dX9_tearOff_21 : decode cX9_tearOff 21 = .ok (.iconst 0, 1) := by decide +kernel
theorem dX9_tearOff_22 : decode cX9_tearOff 22 = .ok (.bipush (-9), 2) := by decide +kernel
theorem dX9_tearOff_24 : decode cX9_tearOff 24 = .ok (.invokevirtual 116, 3) := by decide +kernel
theorem dX9_tearOff_27 : decode cX9_tearOff 27 = .ok (.ireturn, 1) := by decide +kernel
theorem dX9_tearOff_28 : decode cX9_tearOff 28 = .ok (.bipush 100, 2) := by decide +kernel
theorem dX9_tearOff_30 : decode cX9_tearOff 30 = .ok (.istore_n 3, 1) := by decide +kernel
theorem dX9_tearOff_31 : decode cX9_tearOff 31 = .ok (.bipush (-9), 2) := by decide +kernel
theorem dX9_tearOff_33 : decode cX9_tearOff 33 = .ok (.istore 4, 2) := by decide +kernel
theorem dX9_tearOff_35 : decode cX9_tearOff 35 = .ok (.iconst 0, 1) := by decide +kernel
theorem dX9_tearOff_36 : decode cX9_tearOff 36 = .ok (.istore 5, 2) := by decide +kernel
theorem dX9_tearOff_38 : decode cX9_tearOff 38 = .ok (.iload 5, 2) := by decide +kernel
theorem dX9_tearOff_40 : decode cX9_tearOff 40 = .ok (.aload_n 0, 1) := by decide +kernel
theorem dX9_tearOff_41 : decode cX9_tearOff 41 = .ok (.getfield 150, 3) := by decide +kernel
theorem dX9_tearOff_44 : decode cX9_tearOff 44 = .ok (.if_icmp .ge 77, 3) := by decide +kernel
theorem dX9_tearOff_47 : decode cX9_tearOff 47 = .ok (.aload_n 0, 1) := by decide +kernel
theorem dX9_tearOff_48 : decode cX9_tearOff 48 = .ok (.getfield 28, 3) := by decide +kernel
theorem dX9_tearOff_51 : decode cX9_tearOff 51 = .ok (.iload 5, 2) := by decide +kernel
theorem dX9_tearOff_53 : decode cX9_tearOff 53 = .ok (.iaload, 1) := by decide +kernel
theorem dX9_tearOff_54 : decode cX9_tearOff 54 = .ok (.istore 6, 2) := by decide +kernel
theorem dX9_tearOff_56 : decode cX9_tearOff 56 = .ok (.iconst 1, 1) := by decide +kernel
theorem dX9_tearOff_57 : decode cX9_tearOff 57 = .ok (.istore 7, 2) := by decide +kernel
theorem dX9_tearOff_59 : decode cX9_tearOff 59 = .ok (.iload 7, 2) := by decide +kernel
theorem dX9_tearOff_61 : decode cX9_tearOff 61 = .ok (.iload 6, 2) := by decide +kernel
theorem dX9_tearOff_63 : decode cX9_tearOff 63 = .ok (.if_icmp .gt 43, 3) := by decide +kernel
theorem dX9_tearOff_66 : decode cX9_tearOff 66 = .ok (.iload 7, 2) := by decide +kernel
theorem dX9_tearOff_68 : decode cX9_tearOff 68 = .ok (.iload_n 3, 1) := by decide +kernel
theorem dX9_tearOff_69 : decode cX9_tearOff 69 = .ok (.if_icmp .ge 37, 3) := by decide +kernel
theorem dX9_tearOff_72 : decode cX9_tearOff 72 = .ok (.aload_n 0, 1) := by decide +kernel
theorem dX9_tearOff_73 : decode cX9_tearOff 73 = .ok (.getfield 28, 3) := by decide +kernel
theorem dX9_tearOff_76 : decode cX9_tearOff 76 = .ok (.iload 5, 2) := by decide +kernel
theorem dX9_tearOff_78 : decode cX9_tearOff 78 = .ok (.iload 6, 2) := by decide +kernel
theorem dX9_tearOff_80 : decode cX9_tearOff 80 = .ok (.iload 7, 2) := by decide +kernel
theorem dX9_tearOff_82 : decode cX9_tearOff 82 = .ok (.isub, 1) := by decide +kernel
theorem dX9_tearOff_83 : decode cX9_tearOff 83 = .ok (.iastore, 1) := by decide +kernel
theorem dX9_tearOff_84 : decode cX9_tearOff 84 = .ok (.aload_n 0, 1) := by decide +kernel
theorem dX9_tearOff_85 : decode cX9_tearOff 85 = .ok (.iload_n 1, 1) := by decide +kernel
theorem dX9_tearOff_86 : decode cX9_tearOff 86 = .ok (.iload_n 2, 1) := by decide +kernel
theorem dX9_tearOff_87 : decode cX9_tearOff 87 = .ok (.invokevirtual 196, 3) := by decide +kernel
theorem dX9_tearOff_90 : decode cX9_tearOff 90 = .ok (.ifCond .eq 10, 3) := by decide +kernel
theorem dX9_tearOff_93 : decode cX9_tearOff 93 = .ok (.iload 7, 2) := by decide +kernel
theorem dX9_tearOff_95 : decode cX9_tearOff 95 = .ok (.istore_n 3, 1) := by decide +kernel
theorem dX9_tearOff_96 : decode cX9_tearOff 96 = .ok (.iload 5, 2) := by decide +kernel
theorem dX9_tearOff_98 : decode cX9_tearOff 98 = .ok (.istore 4, 2) := by decide +kernel
theorem dX9_tearOff_100 : decode cX9_tearOff 100 = .ok (.iinc 7 1, 3) := by decide +kernel
theorem dX9_tearOff_103 : decode cX9_tearOff 103 = .ok (.goto (-44), 3) := by decide +kernel
theorem dX9_tearOff_106 : decode cX9_tearOff 106 = .ok (.aload_n 0, 1) := by decide +kernel
theorem dX9_tearOff_107 : decode cX9_tearOff 107 = .ok (.getfield 28, 3) := by decide +kernel
theorem dX9_tearOff_110 : decode cX9_tearOff 110 = .ok (.iload 5, 2) := by decide +kernel
theorem dX9_tearOff_112 : decode cX9_tearOff 112 = .ok (.iload 6, 2) := by decide +kernel
theorem dX9_tearOff_114 : decode cX9_tearOff 114 = .ok (.iastore, 1) := by decide +kernel
theorem dX9_tearOff_115 : decode cX9_tearOff 115 = .ok (.iinc 5 1, 3) := by decide +kernel
theorem dX9_tearOff_118 : decode cX9_tearOff 118 = .ok (.goto (-80), 3) := by decide +kernel
theorem dX9_tearOff_121 : decode cX9_tearOff 121 = .ok (.iload 4, 2) := by decide +kernel
theorem dX9_tearOff_123 : decode cX9_tearOff 123 = .ok (.ifCond .ge 8, 3) := by decide +kernel
theorem dX9_tearOff_126 : decode cX9_tearOff 126 = .ok (.bipush (-9), 2) := by decide +kernel
theorem dX9_tearOff_128 : decode cX9_tearOff 128 = .ok (.goto 10, 3) := by decide +kernel
theorem dX9_tearOff_131 : decode cX9_tearOff 131 = .ok (.aload_n 0, 1) := by decide +kernel
theorem dX9_tearOff_132 : decode cX9_tearOff 132 = .ok (.iload_n 3, 1) := by decide +kernel
theorem dX9_tearOff_133 : decode cX9_tearOff 133 = .ok (.iload 4, 2) := by decide +kernel
theorem dX9_tearOff_135 : decode cX9_tearOff 135 = .ok (.invokevirtual 116, 3) := by decide +kernel
theorem dX9_tearOff_138 : decode cX9_tearOff 138 = .ok (.ireturn, 1) := by decide +kernel
set_option maxRecDepth 20000 in
theorem ggX9_rent_X9_isRoom : GoodIn wsX9_rent wsX9_isRoom := goodIn_r _ [6, 7, 8, 9, 5, 10, 28, 29, 30, 31, 32, 33, 34, 35, 36, 37, 38, 39, 40, 41, 42, 43, 44, 45, 46, 47, 48, 49, 50, 51, 52, 53, 54, 55, 56, 57, 58, 59, 60, 61, 62, 63] (by decide +kernel) (by decide +kernel)
set_option maxRecDepth 20000 in
theorem gX9_rent_X9_isRoom : GoodIn wsX9_rent (wsV RX9 210 RX9 yX9_isRoom wsX9_isRoom) := goodIn_app (goodIn_of _ (by decide +kernel)) ggX9_rent_X9_isRoom
set_option maxRecDepth 20000 in
theorem ggX9_rent_X9_comesTo : GoodIn wsX9_rent wsX9_comesTo := goodIn_r _ [14, 15, 16, 17, 18, 5, 19, 20, 21, 22, 23, 24, 28, 29, 30, 31, 32, 33, 34, 35, 36, 37, 38, 39, 40, 41, 42, 43, 44, 45, 46, 47, 48, 49, 50, 51, 52, 53, 54, 55, 56, 57, 58, 59, 60, 61, 62, 63] (by decide +kernel) (by decide +kernel)
set_option maxRecDepth 20000 in
theorem gX9_rent_X9_comesTo : GoodIn wsX9_rent (wsV RX9 175 RX9 yX9_comesTo wsX9_comesTo) := goodIn_app (goodIn_of _ (by decide +kernel)) ggX9_rent_X9_comesTo
set_option maxRecDepth 20000 in
theorem ggX9_rent_X9_isHeard : GoodIn wsX9_rent wsX9_isHeard := goodIn_r _ [27] (by decide +kernel) (by decide +kernel)
set_option maxRecDepth 20000 in
theorem gX9_rent_X9_isHeard : GoodIn wsX9_rent (va_wsS RX9 181 yX9_isHeard wsX9_isHeard) := goodIn_app (goodIn_of _ (by decide +kernel)) ggX9_rent_X9_isHeard
theorem dX9_rent_0 : decode cX9_rent 0 = .ok (.aload_n 0, 1) := by decide +kernel
theorem dX9_rent_1 : decode cX9_rent 1 = .ok (.iload_n 1, 1) := by decide +kernel
theorem dX9_rent_2 : decode cX9_rent 2 = .ok (.invokevirtual 210, 3) := by decide +kernel
theorem dX9_rent_5 : decode cX9_rent 5 = .ok (.ifCond .ne 5, 3) := by decide +kernel
theorem dX9_rent_8 : decode cX9_rent 8 = .ok (.iconst (-1), 1) := by decide +kernel
theorem dX9_rent_9 : decode cX9_rent 9 = .ok (.ireturn, 1) := by decide +kernel
theorem dX9_rent_10 : decode cX9_rent 10 = .ok (.bipush 20, 2) := by decide +kernel
theorem dX9_rent_12 : decode cX9_rent 12 = .ok (.istore_n 2, 1) := by decide +kernel
theorem dX9_rent_13 : decode cX9_rent 13 = .ok (.iconst 0, 1) := by decide +kernel
theorem dX9_rent_14 : decode cX9_rent 14 = .ok (.istore_n 3, 1) := by decide +kernel
theorem dX9_rent_15 : decode cX9_rent 15 = .ok (.iload_n 3, 1) := by decide +kernel
theorem dX9_rent_16 : decode cX9_rent 16 = .ok (.aload_n 0, 1) := by decide +kernel
theorem dX9_rent_17 : decode cX9_rent 17 = .ok (.getfield 153, 3) := by decide +kernel
theorem dX9_rent_20 : decode cX9_rent 20 = .ok (.if_icmp .ge 31, 3) := by decide +kernel
theorem dX9_rent_23 : decode cX9_rent 23 = .ok (.iload_n 2, 1) := by decide +kernel
theorem dX9_rent_24 : decode cX9_rent 24 = .ok (.iconst 0, 1) := by decide +kernel
theorem dX9_rent_25 : decode cX9_rent 25 = .ok (.aload_n 0, 1) := by decide +kernel
theorem dX9_rent_26 : decode cX9_rent 26 = .ok (.iload_n 1, 1) := by decide +kernel
theorem dX9_rent_27 : decode cX9_rent 27 = .ok (.iload_n 3, 1) := by decide +kernel
theorem dX9_rent_28 : decode cX9_rent 28 = .ok (.invokevirtual 175, 3) := by decide +kernel
theorem dX9_rent_31 : decode cX9_rent 31 = .ok (.iconst 0, 1) := by decide +kernel
theorem dX9_rent_32 : decode cX9_rent 32 = .ok (.invokestatic 181, 3) := by decide +kernel
theorem dX9_rent_35 : decode cX9_rent 35 = .ok (.ifCond .eq 7, 3) := by decide +kernel
theorem dX9_rent_38 : decode cX9_rent 38 = .ok (.iconst 2, 1) := by decide +kernel
theorem dX9_rent_39 : decode cX9_rent 39 = .ok (.goto 4, 3) := by decide +kernel
theorem dX9_rent_42 : decode cX9_rent 42 = .ok (.iconst 0, 1) := by decide +kernel
theorem dX9_rent_43 : decode cX9_rent 43 = .ok (.isub, 1) := by decide +kernel
theorem dX9_rent_44 : decode cX9_rent 44 = .ok (.istore_n 2, 1) := by decide +kernel
theorem dX9_rent_45 : decode cX9_rent 45 = .ok (.iinc 3 1, 3) := by decide +kernel
theorem dX9_rent_48 : decode cX9_rent 48 = .ok (.goto (-33), 3) := by decide +kernel
theorem dX9_rent_51 : decode cX9_rent 51 = .ok (.iload_n 2, 1) := by decide +kernel
theorem dX9_rent_52 : decode cX9_rent 52 = .ok (.ifCond .ge 7, 3) := by decide +kernel
theorem dX9_rent_55 : decode cX9_rent 55 = .ok (.iconst 0, 1) := by decide +kernel
theorem dX9_rent_56 : decode cX9_rent 56 = .ok (.goto 4, 3) := by decide +kernel
theorem dX9_rent_59 : decode cX9_rent 59 = .ok (.iload_n 2, 1) := by decide +kernel
theorem dX9_rent_60 : decode cX9_rent 60 = .ok (.ireturn, 1) := by decide +kernel
set_option maxRecDepth 20000 in
theorem ggX9_isThing_X9_in : GoodIn wsX9_isThing wsX9_in := goodIn_r _ [5] (by decide +kernel) (by decide +kernel)
set_option maxRecDepth 20000 in
theorem gX9_isThing_X9_in : GoodIn wsX9_isThing (va_wsS RX9 98 yX9_in wsX9_in) := goodIn_app (goodIn_of _ (by decide +kernel)) ggX9_isThing_X9_in
theorem dX9_isThing_0 : decode cX9_isThing 0 = .ok (.iload_n 0, 1) := by decide +kernel
theorem dX9_isThing_1 : decode cX9_isThing 1 = .ok (.i2l, 1) := by decide +kernel
theorem dX9_isThing_2 : decode cX9_isThing 2 = .ok (.lconst 0, 1) := by decide +kernel
theorem dX9_isThing_3 : decode cX9_isThing 3 = .ok (.ldc2_w 255, 3) := by decide +kernel
theorem dX9_isThing_6 : decode cX9_isThing 6 = .ok (.invokestatic 98, 3) := by decide +kernel
theorem dX9_isThing_9 : decode cX9_isThing 9 = .ok (.ireturn, 1) := by decide +kernel
set_option maxRecDepth 20000 in
theorem ggX9_comes_X9_isOne : GoodIn wsX9_comes wsX9_isOne := goodIn_r _ [6, 7, 8, 9, 5, 10, 18, 19, 20, 21, 22, 23, 24, 25, 26, 27, 28, 29, 30, 31, 32, 33, 34, 35, 36, 37, 38, 39, 40, 41, 42, 43, 44, 45, 46, 47, 48, 49, 50, 51, 52, 53] (by decide +kernel) (by decide +kernel)
set_option maxRecDepth 20000 in
theorem gX9_comes_X9_isOne : GoodIn wsX9_comes (wsV RX9 188 RX9 yX9_isOne wsX9_isOne) := goodIn_app (goodIn_of _ (by decide +kernel)) ggX9_comes_X9_isOne
set_option maxRecDepth 20000 in
theorem ggX9_comes_X9_isThing : GoodIn wsX9_comes wsX9_isThing := goodIn_r _ [13, 14, 8, 9, 5, 10] (by decide +kernel) (by decide +kernel)
set_option maxRecDepth 20000 in
theorem gX9_comes_X9_isThing : GoodIn wsX9_comes (va_wsS RX9 257 yX9_isThing wsX9_isThing) := goodIn_app (goodIn_of _ (by decide +kernel)) ggX9_comes_X9_isThing
set_option maxRecDepth 20000 in
theorem ggX9_comes_X9_ones : GoodIn wsX9_comes wsX9_ones := goodIn_r _ [17] (by decide +kernel) (by decide +kernel)
set_option maxRecDepth 20000 in
theorem gX9_comes_X9_ones : GoodIn wsX9_comes (va_wsS RX9 202 yX9_ones wsX9_ones) := goodIn_app (goodIn_of _ (by decide +kernel)) ggX9_comes_X9_ones
theorem dX9_comes_0 : decode cX9_comes 0 = .ok (.aload_n 0, 1) := by decide +kernel
theorem dX9_comes_1 : decode cX9_comes 1 = .ok (.iload_n 1, 1) := by decide +kernel
theorem dX9_comes_2 : decode cX9_comes 2 = .ok (.invokevirtual 188, 3) := by decide +kernel
theorem dX9_comes_5 : decode cX9_comes 5 = .ok (.ifCond .eq 10, 3) := by decide +kernel
theorem dX9_comes_8 : decode cX9_comes 8 = .ok (.iload_n 2, 1) := by decide +kernel
theorem dX9_comes_9 : decode cX9_comes 9 = .ok (.invokestatic 257, 3) := by decide +kernel
theorem dX9_comes_12 : decode cX9_comes 12 = .ok (.ifCond .ne 5, 3) := by decide +kernel
theorem dX9_comes_15 : decode cX9_comes 15 = .ok (.iconst (-1), 1) := by decide +kernel
theorem dX9_comes_16 : decode cX9_comes 16 = .ok (.ireturn, 1) := by decide +kernel
theorem dX9_comes_17 : decode cX9_comes 17 = .ok (.aload_n 0, 1) := by decide +kernel
theorem dX9_comes_18 : decode cX9_comes 18 = .ok (.getfield 34, 3) := by decide +kernel
theorem dX9_comes_21 : decode cX9_comes 21 = .ok (.iload_n 2, 1) := by decide +kernel
theorem dX9_comes_22 : decode cX9_comes 22 = .ok (.dup2, 1) := by decide +kernel
theorem dX9_comes_23 : decode cX9_comes 23 = .ok (.iaload, 1) := by decide +kernel
theorem dX9_comes_24 : decode cX9_comes 24 = .ok (.iconst 1, 1) := by decide +kernel
theorem dX9_comes_25 : decode cX9_comes 25 = .ok (.iload_n 1, 1) := by decide +kernel
theorem dX9_comes_26 : decode cX9_comes 26 = .ok (.ishl, 1) := by decide +kernel
theorem dX9_comes_27 : decode cX9_comes 27 = .ok (.ior, 1) := by decide +kernel
theorem dX9_comes_28 : decode cX9_comes 28 = .ok (.iastore, 1) := by decide +kernel
theorem dX9_comes_29 : decode cX9_comes 29 = .ok (.aload_n 0, 1) := by decide +kernel
theorem dX9_comes_30 : decode cX9_comes 30 = .ok (.getfield 34, 3) := by decide +kernel
theorem dX9_comes_33 : decode cX9_comes 33 = .ok (.iload_n 2, 1) := by decide +kernel
theorem dX9_comes_34 : decode cX9_comes 34 = .ok (.iaload, 1) := by decide +kernel
theorem dX9_comes_35 : decode cX9_comes 35 = .ok (.invokestatic 202, 3) := by decide +kernel
theorem dX9_comes_38 : decode cX9_comes 38 = .ok (.ireturn, 1) := by decide +kernel
set_option maxRecDepth 20000 in
theorem ggX9_tell_X9_isOne : GoodIn wsX9_tell wsX9_isOne := goodIn_r _ [11, 12, 13, 14, 10, 15, 51, 52, 53, 54, 55, 56, 57, 58, 59, 60, 61, 62, 63, 64, 65, 66, 67, 68, 69, 70, 71, 72, 73, 74, 75, 76, 77, 78, 79, 80, 81, 82, 83, 84, 85, 86] (by decide +kernel) (by decide +kernel)
set_option maxRecDepth 20000 in
theorem gX9_tell_X9_isOne : GoodIn wsX9_tell (wsV RX9 188 RX9 yX9_isOne wsX9_isOne) := goodIn_app (goodIn_of _ (by decide +kernel)) ggX9_tell_X9_isOne
set_option maxRecDepth 20000 in
theorem ggX9_tell_X9_isThing : GoodIn wsX9_tell wsX9_isThing := goodIn_r _ [18, 19, 13, 14, 10, 15] (by decide +kernel) (by decide +kernel)
set_option maxRecDepth 20000 in
theorem gX9_tell_X9_isThing : GoodIn wsX9_tell (va_wsS RX9 257 yX9_isThing wsX9_isThing) := goodIn_app (goodIn_of _ (by decide +kernel)) ggX9_tell_X9_isThing
set_option maxRecDepth 20000 in
theorem ggX9_tell_X9_has : GoodIn wsX9_tell wsX9_has := goodIn_r _ [22] (by decide +kernel) (by decide +kernel)
set_option maxRecDepth 20000 in
theorem gX9_tell_X9_has : GoodIn wsX9_tell (va_wsS RX9 165 yX9_has wsX9_has) := goodIn_app (goodIn_of _ (by decide +kernel)) ggX9_tell_X9_has
set_option maxRecDepth 20000 in
theorem ggX9_tell_X9_heardBy : GoodIn wsX9_tell wsX9_heardBy := goodIn_r _ [26, 12, 27, 28, 20, 21, 10, 22, 29, 30, 31, 32, 33, 34, 35, 36, 37, 38, 39, 40, 41, 42, 43, 44, 45, 46, 47, 48, 49, 50, 51, 52, 53, 54, 55, 56, 57, 58, 59, 60, 61, 62, 63, 64, 65, 66, 67, 68, 69, 70, 71, 72, 73, 74, 75, 76, 77, 78, 79, 80, 81, 82, 83, 84, 85, 86] (by decide +kernel) (by decide +kernel)
set_option maxRecDepth 20000 in
theorem gX9_tell_X9_heardBy : GoodIn wsX9_tell (wsV RX9 185 RX9 yX9_heardBy wsX9_heardBy) := goodIn_app (goodIn_of _ (by decide +kernel)) ggX9_tell_X9_heardBy
theorem dX9_tell_0 : decode cX9_tell 0 = .ok (.aload_n 0, 1) := by decide +kernel
theorem dX9_tell_1 : decode cX9_tell 1 = .ok (.iload_n 1, 1) := by decide +kernel
theorem dX9_tell_2 : decode cX9_tell 2 = .ok (.invokevirtual 188, 3) := by decide +kernel
theorem dX9_tell_5 : decode cX9_tell 5 = .ok (.ifCond .eq 10, 3) := by decide +kernel
theorem dX9_tell_8 : decode cX9_tell 8 = .ok (.iload_n 2, 1) := by decide +kernel
theorem dX9_tell_9 : decode cX9_tell 9 = .ok (.invokestatic 257, 3) := by decide +kernel
theorem dX9_tell_12 : decode cX9_tell 12 = .ok (.ifCond .ne 5, 3) := by decide +kernel
theorem dX9_tell_15 : decode cX9_tell 15 = .ok (.iconst (-1), 1) := by decide +kernel
theorem dX9_tell_16 : decode cX9_tell 16 = .ok (.ireturn, 1) := by decide +kernel
theorem dX9_tell_17 : decode cX9_tell 17 = .ok (.aload_n 0, 1) := by decide +kernel
theorem dX9_tell_18 : decode cX9_tell 18 = .ok (.getfield 34, 3) := by decide +kernel
theorem dX9_tell_21 : decode cX9_tell 21 = .ok (.iload_n 2, 1) := by decide +kernel
theorem dX9_tell_22 : decode cX9_tell 22 = .ok (.iaload, 1) := by decide +kernel
theorem dX9_tell_23 : decode cX9_tell 23 = .ok (.iload_n 1, 1) := by decide +kernel
theorem dX9_tell_24 : decode cX9_tell 24 = .ok (.invokestatic 165, 3) := by decide +kernel
theorem dX9_tell_27 : decode cX9_tell 27 = .ok (.ifCond .ne 6, 3) := by decide +kernel
theorem dX9_tell_30 : decode cX9_tell 30 = .ok (.bipush (-4), 2) := by decide +kernel
theorem dX9_tell_32 : decode cX9_tell 32 = .ok (.ireturn, 1) := by decide +kernel
theorem dX9_tell_33 : decode cX9_tell 33 = .ok (.aload_n 0, 1) := by decide +kernel
theorem dX9_tell_34 : decode cX9_tell 34 = .ok (.getfield 159, 3) := by decide +kernel
theorem dX9_tell_37 : decode cX9_tell 37 = .ok (.bipush 40, 2) := by decide +kernel
theorem dX9_tell_39 : decode cX9_tell 39 = .ok (.if_icmp .ne 6, 3) := by decide +kernel
theorem dX9_tell_42 : decode cX9_tell 42 = .ok (.bipush (-2), 2) := by decide +kernel
theorem dX9_tell_44 : decode cX9_tell 44 = .ok (.ireturn, 1) := by decide +kernel
theorem dX9_tell_45 : decode cX9_tell 45 = .ok (.iconst 0, 1) := by decide +kernel
theorem dX9_tell_46 : decode cX9_tell 46 = .ok (.istore_n 3, 1) := by decide +kernel
theorem dX9_tell_47 : decode cX9_tell 47 = .ok (.iload_n 3, 1) := by decide +kernel
theorem dX9_tell_48 : decode cX9_tell 48 = .ok (.bipush 8, 2) := by decide +kernel
theorem dX9_tell_50 : decode cX9_tell 50 = .ok (.if_icmp .ge 29, 3) := by decide +kernel
theorem dX9_tell_53 : decode cX9_tell 53 = .ok (.aload_n 0, 1) := by decide +kernel
theorem dX9_tell_54 : decode cX9_tell 54 = .ok (.getfield 46, 3) := by decide +kernel
theorem dX9_tell_57 : decode cX9_tell 57 = .ok (.bipush 8, 2) := by decide +kernel
theorem dX9_tell_59 : decode cX9_tell 59 = .ok (.aload_n 0, 1) := by decide +kernel
theorem dX9_tell_60 : decode cX9_tell 60 = .ok (.getfield 159, 3) := by decide +kernel
theorem dX9_tell_63 : decode cX9_tell 63 = .ok (.imul, 1) := by decide +kernel
theorem dX9_tell_64 : decode cX9_tell 64 = .ok (.iload_n 3, 1) := by decide +kernel
theorem dX9_tell_65 : decode cX9_tell 65 = .ok (.iadd, 1) := by decide +kernel
theorem dX9_tell_66 : decode cX9_tell 66 = .ok (.aload_n 0, 1) := by decide +kernel
theorem dX9_tell_67 : decode cX9_tell 67 = .ok (.getfield 34, 3) := by decide +kernel
theorem dX9_tell_70 : decode cX9_tell 70 = .ok (.iload_n 3, 1) := by decide +kernel
theorem dX9_tell_71 : decode cX9_tell 71 = .ok (.iaload, 1) := by decide +kernel
theorem dX9_tell_72 : decode cX9_tell 72 = .ok (.iastore, 1) := by decide +kernel
theorem dX9_tell_73 : decode cX9_tell 73 = .ok (.iinc 3 1, 3) := by decide +kernel
theorem dX9_tell_76 : decode cX9_tell 76 = .ok (.goto (-29), 3) := by decide +kernel
theorem dX9_tell_79 : decode cX9_tell 79 = .ok (.aload_n 0, 1) := by decide +kernel
theorem dX9_tell_80 : decode cX9_tell 80 = .ok (.getfield 37, 3) := by decide +kernel
theorem dX9_tell_83 : decode cX9_tell 83 = .ok (.aload_n 0, 1) := by decide +kernel
theorem dX9_tell_84 : decode cX9_tell 84 = .ok (.getfield 159, 3) := by decide +kernel
theorem dX9_tell_87 : decode cX9_tell 87 = .ok (.iload_n 1, 1) := by decide +kernel
theorem dX9_tell_88 : decode cX9_tell 88 = .ok (.iastore, 1) := by decide +kernel
theorem dX9_tell_89 : decode cX9_tell 89 = .ok (.aload_n 0, 1) := by decide +kernel
theorem dX9_tell_90 : decode cX9_tell 90 = .ok (.getfield 40, 3) := by decide +kernel
theorem dX9_tell_93 : decode cX9_tell 93 = .ok (.aload_n 0, 1) := by decide +kernel
theorem dX9_tell_94 : decode cX9_tell 94 = .ok (.getfield 159, 3) := by decide +kernel
theorem dX9_tell_97 : decode cX9_tell 97 = .ok (.iload_n 2, 1) := by decide +kernel
theorem dX9_tell_98 : decode cX9_tell 98 = .ok (.iastore, 1) := by decide +kernel
theorem dX9_tell_99 : decode cX9_tell 99 = .ok (.aload_n 0, 1) := by decide +kernel
theorem dX9_tell_100 : decode cX9_tell 100 = .ok (.getfield 43, 3) := by decide +kernel
theorem dX9_tell_103 : decode cX9_tell 103 = .ok (.aload_n 0, 1) := by decide +kernel
theorem dX9_tell_104 : decode cX9_tell 104 = .ok (.getfield 159, 3) := by decide +kernel
theorem dX9_tell_107 : decode cX9_tell 107 = .ok (.aload_n 0, 1) := by decide +kernel
theorem dX9_tell_108 : decode cX9_tell 108 = .ok (.iload_n 1, 1) := by decide +kernel
theorem dX9_tell_109 : decode cX9_tell 109 = .ok (.iconst 0, 1) := by decide +kernel
theorem dX9_tell_110 : decode cX9_tell 110 = .ok (.invokevirtual 185, 3) := by decide +kernel
theorem dX9_tell_113 : decode cX9_tell 113 = .ok (.iastore, 1) := by decide +kernel
