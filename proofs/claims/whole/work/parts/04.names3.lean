theorem dX7_digestFrom_36 : decode cX7_digestFrom 36 = .ok (.i2l, 1) := by decide +kernel
theorem dX7_digestFrom_37 : decode cX7_digestFrom 37 = .ok (.ladd, 1) := by decide +kernel
theorem dX7_digestFrom_38 : decode cX7_digestFrom 38 = .ok (.lstore_n 3, 1) := by decide +kernel
theorem dX7_digestFrom_39 : decode cX7_digestFrom 39 = .ok (.iinc 5 1, 3) := by decide +kernel
theorem dX7_digestFrom_42 : decode cX7_digestFrom 42 = .ok (.goto (-27), 3) := by decide +kernel
theorem dX7_digestFrom_45 : decode cX7_digestFrom 45 = .ok (.lload_n 3, 1) := by decide +kernel
theorem dX7_digestFrom_46 : decode cX7_digestFrom 46 = .ok (.lreturn, 1) := by decide +kernel
set_option maxRecDepth 20000 in
theorem ggX8_init_X6_init : GoodIn wsX8_init wsX6_init := goodIn_r _ [36, 37, 2, 3, 28, 38, 39, 40, 41, 42, 43, 44, 45, 46, 47, 48, 49, 50, 51, 52, 53, 54, 55, 56, 57, 100, 101, 102, 103, 104, 105, 106, 107, 108, 109, 110, 122, 123, 124, 125, 126, 127] (by decide +kernel) (by decide +kernel)
set_option maxRecDepth 20000 in
theorem gX8_init_X6_init : GoodIn wsX8_init (wsX6_init) := ggX8_init_X6_init
set_option maxRecDepth 20000 in
theorem ggX8_init_X3_init : GoodIn wsX8_init wsX3_init := goodIn_r _ [60, 61, 2, 3, 14, 62, 28, 63, 111, 112] (by decide +kernel) (by decide +kernel)
set_option maxRecDepth 20000 in
theorem gX8_init_X3_init : GoodIn wsX8_init (wsX3_init) := ggX8_init_X3_init
set_option maxRecDepth 20000 in
theorem ggX8_init_X0_init : GoodIn wsX8_init wsX0_init := goodIn_r _ [66, 67, 2, 3, 28, 68, 69, 113, 114, 115] (by decide +kernel) (by decide +kernel)
set_option maxRecDepth 20000 in
theorem gX8_init_X0_init : GoodIn wsX8_init (wsX0_init) := ggX8_init_X0_init
set_option maxRecDepth 20000 in
theorem ggX8_init_X5_init : GoodIn wsX8_init wsX5_init := goodIn_r _ [72, 73, 2, 3, 28, 74, 116, 117] (by decide +kernel) (by decide +kernel)
set_option maxRecDepth 20000 in
theorem gX8_init_X5_init : GoodIn wsX8_init (wsX5_init) := ggX8_init_X5_init
set_option maxRecDepth 20000 in
theorem ggX8_init_X4_init : GoodIn wsX8_init wsX4_init := goodIn_r _ [77, 78, 2, 3, 28, 79, 80, 118, 119] (by decide +kernel) (by decide +kernel)
set_option maxRecDepth 20000 in
theorem gX8_init_X4_init : GoodIn wsX8_init (wsX4_init) := ggX8_init_X4_init
set_option maxRecDepth 20000 in
theorem ggX8_init_X7_init : GoodIn wsX8_init wsX7_init := goodIn_r _ [83, 84, 2, 3, 85, 86, 87, 120, 121] (by decide +kernel) (by decide +kernel)
set_option maxRecDepth 20000 in
theorem gX8_init_X7_init : GoodIn wsX8_init (wsX7_init) := ggX8_init_X7_init
theorem dX8_init_0 : decode cX8_init 0 = .ok (.aload_n 0, 1) := by decide +kernel
theorem dX8_init_1 : decode cX8_init 1 = .ok (.invokespecial 1, 3) := by decide +kernel
theorem dX8_init_4 : decode cX8_init 4 = .ok (.aload_n 0, 1) := by decide +kernel
theorem dX8_init_5 : decode cX8_init 5 = .ok (.bipush 6, 2) := by decide +kernel
theorem dX8_init_7 : decode cX8_init 7 = .ok (.anewarray 9, 3) := by decide +kernel
theorem dX8_init_10 : decode cX8_init 10 = .ok (.putfield 11, 3) := by decide +kernel
theorem dX8_init_13 : decode cX8_init 13 = .ok (.aload_n 0, 1) := by decide +kernel
theorem dX8_init_14 : decode cX8_init 14 = .ok (.iconst 4, 1) := by decide +kernel
theorem dX8_init_15 : decode cX8_init 15 = .ok (.anewarray 15, 3) := by decide +kernel
theorem dX8_init_18 : decode cX8_init 18 = .ok (.putfield 17, 3) := by decide +kernel
theorem dX8_init_21 : decode cX8_init 21 = .ok (.aload_n 0, 1) := by decide +kernel
theorem dX8_init_22 : decode cX8_init 22 = .ok (.new 21, 3) := by decide +kernel
theorem dX8_init_25 : decode cX8_init 25 = .ok (.dup, 1) := by decide +kernel
theorem dX8_init_26 : decode cX8_init 26 = .ok (.invokespecial 23, 3) := by decide +kernel
theorem dX8_init_29 : decode cX8_init 29 = .ok (.putfield 24, 3) := by decide +kernel
theorem dX8_init_32 : decode cX8_init 32 = .ok (.aload_n 0, 1) := by decide +kernel
theorem dX8_init_33 : decode cX8_init 33 = .ok (.new 21, 3) := by decide +kernel
theorem dX8_init_36 : decode cX8_init 36 = .ok (.dup, 1) := by decide +kernel
theorem dX8_init_37 : decode cX8_init 37 = .ok (.invokespecial 23, 3) := by decide +kernel
theorem dX8_init_40 : decode cX8_init 40 = .ok (.putfield 28, 3) := by decide +kernel
theorem dX8_init_43 : decode cX8_init 43 = .ok (.aload_n 0, 1) := by decide +kernel
theorem dX8_init_44 : decode cX8_init 44 = .ok (.iconst 3, 1) := by decide +kernel
theorem dX8_init_45 : decode cX8_init 45 = .ok (.anewarray 21, 3) := by decide +kernel
theorem dX8_init_48 : decode cX8_init 48 = .ok (.putfield 31, 3) := by decide +kernel
theorem dX8_init_51 : decode cX8_init 51 = .ok (.aload_n 0, 1) := by decide +kernel
theorem dX8_init_52 : decode cX8_init 52 = .ok (.iconst 3, 1) := by decide +kernel
theorem dX8_init_53 : decode cX8_init 53 = .ok (.newarray .boolean, 2) := by decide +kernel
theorem dX8_init_55 : decode cX8_init 55 = .ok (.putfield 35, 3) := by decide +kernel
theorem dX8_init_58 : decode cX8_init 58 = .ok (.aload_n 0, 1) := by decide +kernel
theorem dX8_init_59 : decode cX8_init 59 = .ok (.new 39, 3) := by decide +kernel
theorem dX8_init_62 : decode cX8_init 62 = .ok (.dup, 1) := by decide +kernel
theorem dX8_init_63 : decode cX8_init 63 = .ok (.invokespecial 41, 3) := by decide +kernel
theorem dX8_init_66 : decode cX8_init 66 = .ok (.putfield 42, 3) := by decide +kernel
theorem dX8_init_69 : decode cX8_init 69 = .ok (.aload_n 0, 1) := by decide +kernel
theorem dX8_init_70 : decode cX8_init 70 = .ok (.new 46, 3) := by decide +kernel
theorem dX8_init_73 : decode cX8_init 73 = .ok (.dup, 1) := by decide +kernel
theorem dX8_init_74 : decode cX8_init 74 = .ok (.invokespecial 48, 3) := by decide +kernel
theorem dX8_init_77 : decode cX8_init 77 = .ok (.putfield 49, 3) := by decide +kernel
theorem dX8_init_80 : decode cX8_init 80 = .ok (.aload_n 0, 1) := by decide +kernel
theorem dX8_init_81 : decode cX8_init 81 = .ok (.new 53, 3) := by decide +kernel
theorem dX8_init_84 : decode cX8_init 84 = .ok (.dup, 1) := by decide +kernel
theorem dX8_init_85 : decode cX8_init 85 = .ok (.invokespecial 55, 3) := by decide +kernel
theorem dX8_init_88 : decode cX8_init 88 = .ok (.putfield 56, 3) := by decide +kernel
theorem dX8_init_91 : decode cX8_init 91 = .ok (.aload_n 0, 1) := by decide +kernel
theorem dX8_init_92 : decode cX8_init 92 = .ok (.bipush 6, 2) := by decide +kernel
theorem dX8_init_94 : decode cX8_init 94 = .ok (.newarray .int, 2) := by decide +kernel
theorem dX8_init_96 : decode cX8_init 96 = .ok (.putfield 60, 3) := by decide +kernel
theorem dX8_init_99 : decode cX8_init 99 = .ok (.iconst 0, 1) := by decide +kernel
theorem dX8_init_100 : decode cX8_init 100 = .ok (.istore_n 1, 1) := by decide +kernel
theorem dX8_init_101 : decode cX8_init 101 = .ok (.iload_n 1, 1) := by decide +kernel
theorem dX8_init_102 : decode cX8_init 102 = .ok (.bipush 6, 2) := by decide +kernel
theorem dX8_init_104 : decode cX8_init 104 = .ok (.if_icmp .ge 22, 3) := by decide +kernel
theorem dX8_init_107 : decode cX8_init 107 = .ok (.aload_n 0, 1) := by decide +kernel
theorem dX8_init_108 : decode cX8_init 108 = .ok (.getfield 11, 3) := by decide +kernel
theorem dX8_init_111 : decode cX8_init 111 = .ok (.iload_n 1, 1) := by decide +kernel
theorem dX8_init_112 : decode cX8_init 112 = .ok (.new 9, 3) := by decide +kernel
theorem dX8_init_115 : decode cX8_init 115 = .ok (.dup, 1) := by decide +kernel
theorem dX8_init_116 : decode cX8_init 116 = .ok (.invokespecial 64, 3) := by decide +kernel
theorem dX8_init_119 : decode cX8_init 119 = .ok (.aastore, 1) := by decide +kernel
theorem dX8_init_120 : decode cX8_init 120 = .ok (.iinc 1 1, 3) := by decide +kernel
theorem dX8_init_123 : decode cX8_init 123 = .ok (.goto (-22), 3) := by decide +kernel
theorem dX8_init_126 : decode cX8_init 126 = .ok (.iconst 0, 1) := by decide +kernel
theorem dX8_init_127 : decode cX8_init 127 = .ok (.istore_n 1, 1) := by decide +kernel
theorem dX8_init_128 : decode cX8_init 128 = .ok (.iload_n 1, 1) := by decide +kernel
theorem dX8_init_129 : decode cX8_init 129 = .ok (.iconst 4, 1) := by decide +kernel
theorem dX8_init_130 : decode cX8_init 130 = .ok (.if_icmp .ge 22, 3) := by decide +kernel
theorem dX8_init_133 : decode cX8_init 133 = .ok (.aload_n 0, 1) := by decide +kernel
theorem dX8_init_134 : decode cX8_init 134 = .ok (.getfield 17, 3) := by decide +kernel
theorem dX8_init_137 : decode cX8_init 137 = .ok (.iload_n 1, 1) := by decide +kernel
theorem dX8_init_138 : decode cX8_init 138 = .ok (.new 15, 3) := by decide +kernel
theorem dX8_init_141 : decode cX8_init 141 = .ok (.dup, 1) := by decide +kernel
theorem dX8_init_142 : decode cX8_init 142 = .ok (.invokespecial 65, 3) := by decide +kernel
theorem dX8_init_145 : decode cX8_init 145 = .ok (.aastore, 1) := by decide +kernel
theorem dX8_init_146 : decode cX8_init 146 = .ok (.iinc 1 1, 3) := by decide +kernel
theorem dX8_init_149 : decode cX8_init 149 = .ok (.goto (-21), 3) := by decide +kernel
theorem dX8_init_152 : decode cX8_init 152 = .ok (.iconst 0, 1) := by decide +kernel
theorem dX8_init_153 : decode cX8_init 153 = .ok (.istore_n 1, 1) := by decide +kernel
theorem dX8_init_154 : decode cX8_init 154 = .ok (.iload_n 1, 1) := by decide +kernel
theorem dX8_init_155 : decode cX8_init 155 = .ok (.iconst 3, 1) := by decide +kernel
theorem dX8_init_156 : decode cX8_init 156 = .ok (.if_icmp .ge 22, 3) := by decide +kernel
theorem dX8_init_159 : decode cX8_init 159 = .ok (.aload_n 0, 1) := by decide +kernel
theorem dX8_init_160 : decode cX8_init 160 = .ok (.getfield 31, 3) := by decide +kernel
theorem dX8_init_163 : decode cX8_init 163 = .ok (.iload_n 1, 1) := by decide +kernel
theorem dX8_init_164 : decode cX8_init 164 = .ok (.new 21, 3) := by decide +kernel
theorem dX8_init_167 : decode cX8_init 167 = .ok (.dup, 1) := by decide +kernel
theorem dX8_init_168 : decode cX8_init 168 = .ok (.invokespecial 23, 3) := by decide +kernel
theorem dX8_init_171 : decode cX8_init 171 = .ok (.aastore, 1) := by decide +kernel
theorem dX8_init_172 : decode cX8_init 172 = .ok (.iinc 1 1, 3) := by decide +kernel
theorem dX8_init_175 : decode cX8_init 175 = .ok (.goto (-21), 3) := by decide +kernel
theorem dX8_init_178 : decode cX8_init 178 = .ok (.return_, 1) := by decide +kernel
set_option maxRecDepth 20000 in
theorem ggX8_row_X8_isRow : GoodIn wsX8_row wsX8_isRow := goodIn_r _ [5] (by decide +kernel) (by decide +kernel)
set_option maxRecDepth 20000 in
theorem gX8_row_X8_isRow : GoodIn wsX8_row (va_wsS RX8 66 yX8_isRow wsX8_isRow) := goodIn_app (goodIn_of _ (by decide +kernel)) ggX8_row_X8_isRow
set_option maxRecDepth 20000 in
theorem ggX8_row_X8_find : GoodIn wsX8_row wsX8_find := goodIn_r _ [9, 10, 11, 19, 20, 21, 22, 23, 24, 25, 26, 27, 28, 29, 30] (by decide +kernel) (by decide +kernel)
set_option maxRecDepth 20000 in
theorem gX8_row_X8_find : GoodIn wsX8_row (wsV RX8 70 RX8 yX8_find wsX8_find) := goodIn_app (goodIn_of _ (by decide +kernel)) ggX8_row_X8_find
set_option maxRecDepth 20000 in
theorem ggX8_row_X4_begin : GoodIn wsX8_row wsX4_begin := goodIn_r _ [16, 17, 18, 31, 32] (by decide +kernel) (by decide +kernel)
set_option maxRecDepth 20000 in
theorem gX8_row_X4_begin : GoodIn wsX8_row (wsV RX8 74 RX4 yX4_begin wsX4_begin) := goodIn_app (goodIn_of _ (by decide +kernel)) ggX8_row_X4_begin
theorem dX8_row_0 : decode cX8_row 0 = .ok (.iload_n 1, 1) := by decide +kernel
theorem dX8_row_1 : decode cX8_row 1 = .ok (.invokestatic 66, 3) := by decide +kernel
theorem dX8_row_4 : decode cX8_row 4 = .ok (.ifCond .eq 9, 3) := by decide +kernel
theorem dX8_row_7 : decode cX8_row 7 = .ok (.iload_n 2, 1) := by decide +kernel
theorem dX8_row_8 : decode cX8_row 8 = .ok (.bipush 40, 2) := by decide +kernel
theorem dX8_row_10 : decode cX8_row 10 = .ok (.if_icmp .le 5, 3) := by decide +kernel
theorem dX8_row_13 : decode cX8_row 13 = .ok (.iconst (-1), 1) := by decide +kernel
theorem dX8_row_14 : decode cX8_row 14 = .ok (.ireturn, 1) := by decide +kernel
theorem dX8_row_15 : decode cX8_row 15 = .ok (.iload_n 2, 1) := by decide +kernel
theorem dX8_row_16 : decode cX8_row 16 = .ok (.ifCond .ge 9, 3) := by decide +kernel
theorem dX8_row_19 : decode cX8_row 19 = .ok (.aload_n 0, 1) := by decide +kernel
theorem dX8_row_20 : decode cX8_row 20 = .ok (.iconst 5, 1) := by decide +kernel
theorem dX8_row_21 : decode cX8_row 21 = .ok (.invokevirtual 70, 3) := by decide +kernel
theorem dX8_row_24 : decode cX8_row 24 = .ok (.ireturn, 1) := by decide +kernel
theorem dX8_row_25 : decode cX8_row 25 = .ok (.aload_n 0, 1) := by decide +kernel
theorem dX8_row_26 : decode cX8_row 26 = .ok (.getfield 11, 3) := by decide +kernel
theorem dX8_row_29 : decode cX8_row 29 = .ok (.iload_n 1, 1) := by decide +kernel
theorem dX8_row_30 : decode cX8_row 30 = .ok (.aaload, 1) := by decide +kernel
theorem dX8_row_31 : decode cX8_row 31 = .ok (.iload_n 2, 1) := by decide +kernel
theorem dX8_row_32 : decode cX8_row 32 = .ok (.invokevirtual 74, 3) := by decide +kernel
theorem dX8_row_35 : decode cX8_row 35 = .ok (.iload_n 2, 1) := by decide +kernel
theorem dX8_row_36 : decode cX8_row 36 = .ok (.ireturn, 1) := by decide +kernel
set_option maxRecDepth 20000 in
theorem ggX8_lay_X8_at : GoodIn wsX8_lay wsX8_at := goodIn_r _ [7, 1, 2, 8, 9, 10, 6, 11, 12, 13, 14, 15, 16, 17, 18, 19, 20, 21, 22, 23, 24, 25, 26, 27, 28, 29, 30, 31, 32, 33, 34, 35, 36, 37, 38, 39, 40, 41] (by decide +kernel) (by decide +kernel)
set_option maxRecDepth 20000 in
theorem gX8_lay_X8_at : GoodIn wsX8_lay (wsV RX8 78 RX8 yX8_at wsX8_at) := goodIn_app (goodIn_of _ (by decide +kernel)) ggX8_lay_X8_at
theorem dX8_lay_0 : decode cX8_lay 0 = .ok (.aload_n 0, 1) := by decide +kernel
theorem dX8_lay_1 : decode cX8_lay 1 = .ok (.iload_n 1, 1) := by decide +kernel
theorem dX8_lay_2 : decode cX8_lay 2 = .ok (.iload_n 2, 1) := by decide +kernel
theorem dX8_lay_3 : decode cX8_lay 3 = .ok (.invokevirtual 78, 3) := by decide +kernel
theorem dX8_lay_6 : decode cX8_lay 6 = .ok (.istore 4, 2) := by decide +kernel
theorem dX8_lay_8 : decode cX8_lay 8 = .ok (.iload 4, 2) := by decide +kernel
theorem dX8_lay_10 : decode cX8_lay 10 = .ok (.iconst 1, 1) := by decide +kernel
theorem dX8_lay_11 : decode cX8_lay 11 = .ok (.if_icmp .ne 15, 3) := by decide +kernel
theorem dX8_lay_14 : decode cX8_lay 14 = .ok (.aload_n 0, 1) := by decide +kernel
theorem dX8_lay_15 : decode cX8_lay 15 = .ok (.getfield 11, 3) := by decide +kernel
theorem dX8_lay_18 : decode cX8_lay 18 = .ok (.iload_n 1, 1) := by decide +kernel
theorem dX8_lay_19 : decode cX8_lay 19 = .ok (.aaload, 1) := by decide +kernel
theorem dX8_lay_20 : decode cX8_lay 20 = .ok (.getfield 82, 3) := by decide +kernel
theorem dX8_lay_23 : decode cX8_lay 23 = .ok (.iload_n 2, 1) := by decide +kernel
theorem dX8_lay_24 : decode cX8_lay 24 = .ok (.iload_n 3, 1) := by decide +kernel
theorem dX8_lay_25 : decode cX8_lay 25 = .ok (.iastore, 1) := by decide +kernel
theorem dX8_lay_26 : decode cX8_lay 26 = .ok (.iload 4, 2) := by decide +kernel
theorem dX8_lay_28 : decode cX8_lay 28 = .ok (.ireturn, 1) := by decide +kernel
set_option maxRecDepth 20000 in
theorem ggX8_at_X8_isRow : GoodIn wsX8_at wsX8_isRow := goodIn_r _ [7] (by decide +kernel) (by decide +kernel)
set_option maxRecDepth 20000 in
theorem gX8_at_X8_isRow : GoodIn wsX8_at (va_wsS RX8 66 yX8_isRow wsX8_isRow) := goodIn_app (goodIn_of _ (by decide +kernel)) ggX8_at_X8_isRow
set_option maxRecDepth 20000 in
theorem ggX8_at_X4_isMissing : GoodIn wsX8_at wsX4_isMissing := goodIn_r _ [12, 13, 36, 37] (by decide +kernel) (by decide +kernel)
set_option maxRecDepth 20000 in
theorem gX8_at_X4_isMissing : GoodIn wsX8_at (wsV RX8 85 RX4 yX4_isMissing wsX4_isMissing) := goodIn_app (goodIn_of _ (by decide +kernel)) ggX8_at_X4_isMissing
set_option maxRecDepth 20000 in
theorem ggX8_at_X8_find : GoodIn wsX8_at wsX8_find := goodIn_r _ [17, 18, 19, 24, 25, 26, 27, 28, 29, 30, 31, 32, 33, 34, 35] (by decide +kernel) (by decide +kernel)
set_option maxRecDepth 20000 in
theorem gX8_at_X8_find : GoodIn wsX8_at (wsV RX8 70 RX8 yX8_find wsX8_find) := goodIn_app (goodIn_of _ (by decide +kernel)) ggX8_at_X8_find
set_option maxRecDepth 20000 in
theorem ggX8_at_X4_has : GoodIn wsX8_at wsX4_has := goodIn_r _ [23, 13, 36, 37] (by decide +kernel) (by decide +kernel)
set_option maxRecDepth 20000 in
theorem gX8_at_X4_has : GoodIn wsX8_at (wsV RX8 89 RX4 yX4_has wsX4_has) := goodIn_app (goodIn_of _ (by decide +kernel)) ggX8_at_X4_has
theorem dX8_at_0 : decode cX8_at 0 = .ok (.iload_n 1, 1) := by decide +kernel
theorem dX8_at_1 : decode cX8_at 1 = .ok (.invokestatic 66, 3) := by decide +kernel
theorem dX8_at_4 : decode cX8_at 4 = .ok (.ifCond .ne 5, 3) := by decide +kernel
theorem dX8_at_7 : decode cX8_at 7 = .ok (.iconst (-1), 1) := by decide +kernel
theorem dX8_at_8 : decode cX8_at 8 = .ok (.ireturn, 1) := by decide +kernel
theorem dX8_at_9 : decode cX8_at 9 = .ok (.aload_n 0, 1) := by decide +kernel
theorem dX8_at_10 : decode cX8_at 10 = .ok (.getfield 11, 3) := by decide +kernel
theorem dX8_at_13 : decode cX8_at 13 = .ok (.iload_n 1, 1) := by decide +kernel
theorem dX8_at_14 : decode cX8_at 14 = .ok (.aaload, 1) := by decide +kernel
theorem dX8_at_15 : decode cX8_at 15 = .ok (.astore_n 3, 1) := by decide +kernel
theorem dX8_at_16 : decode cX8_at 16 = .ok (.aload_n 3, 1) := by decide +kernel
theorem dX8_at_17 : decode cX8_at 17 = .ok (.invokevirtual 85, 3) := by decide +kernel
theorem dX8_at_20 : decode cX8_at 20 = .ok (.ifCond .eq 9, 3) := by decide +kernel
theorem dX8_at_23 : decode cX8_at 23 = .ok (.aload_n 0, 1) := by decide +kernel
theorem dX8_at_24 : decode cX8_at 24 = .ok (.iconst 1, 1) := by decide +kernel
theorem dX8_at_25 : decode cX8_at 25 = .ok (.invokevirtual 70, 3) := by decide +kernel
theorem dX8_at_28 : decode cX8_at 28 = .ok (.ireturn, 1) := by decide +kernel
theorem dX8_at_29 : decode cX8_at 29 = .ok (.aload_n 3, 1) := by decide +kernel
theorem dX8_at_30 : decode cX8_at 30 = .ok (.iload_n 2, 1) := by decide +kernel
theorem dX8_at_31 : decode cX8_at 31 = .ok (.invokevirtual 89, 3) := by decide +kernel
theorem dX8_at_34 : decode cX8_at 34 = .ok (.ifCond .ne 9, 3) := by decide +kernel
theorem dX8_at_37 : decode cX8_at 37 = .ok (.aload_n 0, 1) := by decide +kernel
theorem dX8_at_38 : decode cX8_at 38 = .ok (.iconst 2, 1) := by decide +kernel
theorem dX8_at_39 : decode cX8_at 39 = .ok (.invokevirtual 70, 3) := by decide +kernel
theorem dX8_at_42 : decode cX8_at 42 = .ok (.ireturn, 1) := by decide +kernel
theorem dX8_at_43 : decode cX8_at 43 = .ok (.aload_n 0, 1) := by decide +kernel
theorem dX8_at_44 : decode cX8_at 44 = .ok (.aload_n 3, 1) := by decide +kernel
theorem dX8_at_45 : decode cX8_at 45 = .ok (.getfield 82, 3) := by decide +kernel
theorem dX8_at_48 : decode cX8_at 48 = .ok (.iload_n 2, 1) := by decide +kernel
theorem dX8_at_49 : decode cX8_at 49 = .ok (.iaload, 1) := by decide +kernel
theorem dX8_at_50 : decode cX8_at 50 = .ok (.putfield 92, 3) := by decide +kernel
theorem dX8_at_53 : decode cX8_at 53 = .ok (.iconst 1, 1) := by decide +kernel
theorem dX8_at_54 : decode cX8_at 54 = .ok (.ireturn, 1) := by decide +kernel
set_option maxRecDepth 20000 in
theorem ggX8_tear_X8_isRow : GoodIn wsX8_tear wsX8_isRow := goodIn_r _ [6] (by decide +kernel) (by decide +kernel)
set_option maxRecDepth 20000 in
theorem gX8_tear_X8_isRow : GoodIn wsX8_tear (va_wsS RX8 66 yX8_isRow wsX8_isRow) := goodIn_app (goodIn_of _ (by decide +kernel)) ggX8_tear_X8_isRow
set_option maxRecDepth 20000 in
theorem ggX8_tear_X4_isMissing : GoodIn wsX8_tear wsX4_isMissing := goodIn_r _ [11, 12, 31, 32] (by decide +kernel) (by decide +kernel)
set_option maxRecDepth 20000 in
theorem gX8_tear_X4_isMissing : GoodIn wsX8_tear (wsV RX8 85 RX4 yX4_isMissing wsX4_isMissing) := goodIn_app (goodIn_of _ (by decide +kernel)) ggX8_tear_X4_isMissing
set_option maxRecDepth 20000 in
theorem ggX8_tear_X8_find : GoodIn wsX8_tear wsX8_find := goodIn_r _ [16, 17, 18, 19, 20, 21, 22, 23, 24, 25, 26, 27, 28, 29, 30] (by decide +kernel) (by decide +kernel)
set_option maxRecDepth 20000 in
theorem gX8_tear_X8_find : GoodIn wsX8_tear (wsV RX8 70 RX8 yX8_find wsX8_find) := goodIn_app (goodIn_of _ (by decide +kernel)) ggX8_tear_X8_find
theorem dX8_tear_0 : decode cX8_tear 0 = .ok (.iload_n 1, 1) := by decide +kernel
theorem dX8_tear_1 : decode cX8_tear 1 = .ok (.invokestatic 66, 3) := by decide +kernel
theorem dX8_tear_4 : decode cX8_tear 4 = .ok (.ifCond .ne 5, 3) := by decide +kernel
theorem dX8_tear_7 : decode cX8_tear 7 = .ok (.iconst (-1), 1) := by decide +kernel
theorem dX8_tear_8 : decode cX8_tear 8 = .ok (.ireturn, 1) := by decide +kernel
theorem dX8_tear_9 : decode cX8_tear 9 = .ok (.aload_n 0, 1) := by decide +kernel
theorem dX8_tear_10 : decode cX8_tear 10 = .ok (.getfield 11, 3) := by decide +kernel
theorem dX8_tear_13 : decode cX8_tear 13 = .ok (.iload_n 1, 1) := by decide +kernel
theorem dX8_tear_14 : decode cX8_tear 14 = .ok (.aaload, 1) := by decide +kernel
theorem dX8_tear_15 : decode cX8_tear 15 = .ok (.invokevirtual 85, 3) := by decide +kernel
theorem dX8_tear_18 : decode cX8_tear 18 = .ok (.ifCond .eq 9, 3) := by decide +kernel
theorem dX8_tear_21 : decode cX8_tear 21 = .ok (.aload_n 0, 1) := by decide +kernel
theorem dX8_tear_22 : decode cX8_tear 22 = .ok (.iconst 1, 1) := by decide +kernel
theorem dX8_tear_23 : decode cX8_tear 23 = .ok (.invokevirtual 70, 3) := by decide +kernel
theorem dX8_tear_26 : decode cX8_tear 26 = .ok (.ireturn, 1) := by decide +kernel
theorem dX8_tear_27 : decode cX8_tear 27 = .ok (.aload_n 0, 1) := by decide +kernel
theorem dX8_tear_28 : decode cX8_tear 28 = .ok (.getfield 11, 3) := by decide +kernel
theorem dX8_tear_31 : decode cX8_tear 31 = .ok (.iload_n 1, 1) := by decide +kernel
theorem dX8_tear_32 : decode cX8_tear 32 = .ok (.aaload, 1) := by decide +kernel
theorem dX8_tear_33 : decode cX8_tear 33 = .ok (.iconst (-1), 1) := by decide +kernel
theorem dX8_tear_34 : decode cX8_tear 34 = .ok (.putfield 96, 3) := by decide +kernel
theorem dX8_tear_37 : decode cX8_tear 37 = .ok (.iconst 1, 1) := by decide +kernel
theorem dX8_tear_38 : decode cX8_tear 38 = .ok (.ireturn, 1) := by decide +kernel
set_option maxRecDepth 20000 in
theorem ggX8_copy_X8_isRow : GoodIn wsX8_copy wsX8_isRow := goodIn_r _ [10] (by decide +kernel) (by decide +kernel)
set_option maxRecDepth 20000 in
theorem gX8_copy_X8_isRow : GoodIn wsX8_copy (va_wsS RX8 66 yX8_isRow wsX8_isRow) := goodIn_app (goodIn_of _ (by decide +kernel)) ggX8_copy_X8_isRow
set_option maxRecDepth 20000 in
theorem ggX8_copy_X8_find : GoodIn wsX8_copy wsX8_find := goodIn_r _ [14, 15, 16, 27, 28, 29, 30, 31, 32, 33, 34, 35, 36, 37, 38] (by decide +kernel) (by decide +kernel)
set_option maxRecDepth 20000 in
theorem gX8_copy_X8_find : GoodIn wsX8_copy (wsV RX8 70 RX8 yX8_find wsX8_find) := goodIn_app (goodIn_of _ (by decide +kernel)) ggX8_copy_X8_find
set_option maxRecDepth 20000 in
theorem ggX8_copy_X4_isMissing : GoodIn wsX8_copy wsX4_isMissing := goodIn_r _ [21, 22, 39, 40] (by decide +kernel) (by decide +kernel)
set_option maxRecDepth 20000 in
theorem gX8_copy_X4_isMissing : GoodIn wsX8_copy (wsV RX8 85 RX4 yX4_isMissing wsX4_isMissing) := goodIn_app (goodIn_of _ (by decide +kernel)) ggX8_copy_X4_isMissing
set_option maxRecDepth 20000 in
theorem ggX8_copy_X4_holds : GoodIn wsX8_copy wsX4_holds := goodIn_r _ [26, 22, 39, 40] (by decide +kernel) (by decide +kernel)
set_option maxRecDepth 20000 in
theorem gX8_copy_X4_holds : GoodIn wsX8_copy (wsV RX8 99 RX4 yX4_holds wsX4_holds) := goodIn_app (goodIn_of _ (by decide +kernel)) ggX8_copy_X4_holds
theorem dX8_copy_0 : decode cX8_copy 0 = .ok (.iload_n 1, 1) := by decide +kernel
theorem dX8_copy_1 : decode cX8_copy 1 = .ok (.invokestatic 66, 3) := by decide +kernel
theorem dX8_copy_4 : decode cX8_copy 4 = .ok (.ifCond .eq 10, 3) := by decide +kernel
theorem dX8_copy_7 : decode cX8_copy 7 = .ok (.iload_n 3, 1) := by decide +kernel
theorem dX8_copy_8 : decode cX8_copy 8 = .ok (.invokestatic 66, 3) := by decide +kernel
theorem dX8_copy_11 : decode cX8_copy 11 = .ok (.ifCond .ne 5, 3) := by decide +kernel
theorem dX8_copy_14 : decode cX8_copy 14 = .ok (.iconst (-1), 1) := by decide +kernel
theorem dX8_copy_15 : decode cX8_copy 15 = .ok (.ireturn, 1) := by decide +kernel
theorem dX8_copy_16 : decode cX8_copy 16 = .ok (.iload 5, 2) := by decide +kernel
theorem dX8_copy_18 : decode cX8_copy 18 = .ok (.ifCond .ge 9, 3) := by decide +kernel
theorem dX8_copy_21 : decode cX8_copy 21 = .ok (.aload_n 0, 1) := by decide +kernel
theorem dX8_copy_22 : decode cX8_copy 22 = .ok (.iconst 5, 1) := by decide +kernel
theorem dX8_copy_23 : decode cX8_copy 23 = .ok (.invokevirtual 70, 3) := by decide +kernel
theorem dX8_copy_26 : decode cX8_copy 26 = .ok (.ireturn, 1) := by decide +kernel
theorem dX8_copy_27 : decode cX8_copy 27 = .ok (.aload_n 0, 1) := by decide +kernel
theorem dX8_copy_28 : decode cX8_copy 28 = .ok (.getfield 11, 3) := by decide +kernel
theorem dX8_copy_31 : decode cX8_copy 31 = .ok (.iload_n 1, 1) := by decide +kernel
theorem dX8_copy_32 : decode cX8_copy 32 = .ok (.aaload, 1) := by decide +kernel
theorem dX8_copy_33 : decode cX8_copy 33 = .ok (.invokevirtual 85, 3) := by decide +kernel
theorem dX8_copy_36 : decode cX8_copy 36 = .ok (.ifCond .ne 15, 3) := by decide +kernel
theorem dX8_copy_39 : decode cX8_copy 39 = .ok (.aload_n 0, 1) := by decide +kernel
theorem dX8_copy_40 : decode cX8_copy 40 = .ok (.getfield 11, 3) := by decide +kernel
theorem dX8_copy_43 : decode cX8_copy 43 = .ok (.iload_n 3, 1) := by decide +kernel
theorem dX8_copy_44 : decode cX8_copy 44 = .ok (.aaload, 1) := by decide +kernel
theorem dX8_copy_45 : decode cX8_copy 45 = .ok (.invokevirtual 85, 3) := by decide +kernel
theorem dX8_copy_48 : decode cX8_copy 48 = .ok (.ifCond .eq 9, 3) := by decide +kernel
theorem dX8_copy_51 : decode cX8_copy 51 = .ok (.aload_n 0, 1) := by decide +kernel
theorem dX8_copy_52 : decode cX8_copy 52 = .ok (.iconst 1, 1) := by decide +kernel
theorem dX8_copy_53 : decode cX8_copy 53 = .ok (.invokevirtual 70, 3) := by decide +kernel
theorem dX8_copy_56 : decode cX8_copy 56 = .ok (.ireturn, 1) := by decide +kernel
theorem dX8_copy_57 : decode cX8_copy 57 = .ok (.aload_n 0, 1) := by decide +kernel
theorem dX8_copy_58 : decode cX8_copy 58 = .ok (.getfield 11, 3) := by decide +kernel
theorem dX8_copy_61 : decode cX8_copy 61 = .ok (.iload_n 1, 1) := by decide +kernel
theorem dX8_copy_62 : decode cX8_copy 62 = .ok (.aaload, 1) := by decide +kernel
theorem dX8_copy_63 : decode cX8_copy 63 = .ok (.iload_n 2, 1) := by decide +kernel
theorem dX8_copy_64 : decode cX8_copy 64 = .ok (.iload 5, 2) := by decide +kernel
theorem dX8_copy_66 : decode cX8_copy 66 = .ok (.invokevirtual 99, 3) := by decide +kernel
theorem dX8_copy_69 : decode cX8_copy 69 = .ok (.ifCond .eq 19, 3) := by decide +kernel
theorem dX8_copy_72 : decode cX8_copy 72 = .ok (.aload_n 0, 1) := by decide +kernel
theorem dX8_copy_73 : decode cX8_copy 73 = .ok (.getfield 11, 3) := by decide +kernel
theorem dX8_copy_76 : decode cX8_copy 76 = .ok (.iload_n 3, 1) := by decide +kernel
theorem dX8_copy_77 : decode cX8_copy 77 = .ok (.aaload, 1) := by decide +kernel
theorem dX8_copy_78 : decode cX8_copy 78 = .ok (.iload 4, 2) := by decide +kernel
theorem dX8_copy_80 : decode cX8_copy 80 = .ok (.iload 5, 2) := by decide +kernel
theorem dX8_copy_82 : decode cX8_copy 82 = .ok (.invokevirtual 99, 3) := by decide +kernel
theorem dX8_copy_85 : decode cX8_copy 85 = .ok (.ifCond .ne 9, 3) := by decide +kernel
theorem dX8_copy_88 : decode cX8_copy 88 = .ok (.aload_n 0, 1) := by decide +kernel
theorem dX8_copy_89 : decode cX8_copy 89 = .ok (.iconst 2, 1) := by decide +kernel
theorem dX8_copy_90 : decode cX8_copy 90 = .ok (.invokevirtual 70, 3) := by decide +kernel
theorem dX8_copy_93 : decode cX8_copy 93 = .ok (.ireturn, 1) := by decide +kernel
theorem dX8_copy_94 : decode cX8_copy 94 = .ok (.aload_n 0, 1) := by decide +kernel
theorem dX8_copy_95 : decode cX8_copy 95 = .ok (.getfield 11, 3) := by decide +kernel
theorem dX8_copy_98 : decode cX8_copy 98 = .ok (.iload_n 1, 1) := by decide +kernel
theorem dX8_copy_99 : decode cX8_copy 99 = .ok (.aaload, 1) := by decide +kernel
theorem dX8_copy_100 : decode cX8_copy 100 = .ok (.getfield 82, 3) := by decide +kernel
theorem dX8_copy_103 : decode cX8_copy 103 = .ok (.iload_n 2, 1) := by decide +kernel
theorem dX8_copy_104 : decode cX8_copy 104 = .ok (.aload_n 0, 1) := by decide +kernel
theorem dX8_copy_105 : decode cX8_copy 105 = .ok (.getfield 11, 3) := by decide +kernel
theorem dX8_copy_108 : decode cX8_copy 108 = .ok (.iload_n 3, 1) := by decide +kernel
theorem dX8_copy_109 : decode cX8_copy 109 = .ok (.aaload, 1) := by decide +kernel
theorem dX8_copy_110 : decode cX8_copy 110 = .ok (.getfield 82, 3) := by decide +kernel
theorem dX8_copy_113 : decode cX8_copy 113 = .ok (.iload 4, 2) := by decide +kernel
theorem dX8_copy_115 : decode cX8_copy 115 = .ok (.iload 5, 2) := by decide +kernel
theorem dX8_copy_117 : decode cX8_copy 117 = .ok (.invokestatic 103, 3) := by decide +kernel
theorem dX8_copy_120 : decode cX8_copy 120 = .ok (.iconst 1, 1) := by decide +kernel
theorem dX8_copy_121 : decode cX8_copy 121 = .ok (.ireturn, 1) := by decide +kernel
set_option maxRecDepth 20000 in
theorem ggX8_mean_X8_isRow : GoodIn wsX8_mean wsX8_isRow := goodIn_r _ [7] (by decide +kernel) (by decide +kernel)
set_option maxRecDepth 20000 in
theorem gX8_mean_X8_isRow : GoodIn wsX8_mean (va_wsS RX8 66 yX8_isRow wsX8_isRow) := goodIn_app (goodIn_of _ (by decide +kernel)) ggX8_mean_X8_isRow
set_option maxRecDepth 20000 in
theorem ggX8_mean_X4_isMissing : GoodIn wsX8_mean wsX4_isMissing := goodIn_r _ [12, 13, 37, 38] (by decide +kernel) (by decide +kernel)
set_option maxRecDepth 20000 in
theorem gX8_mean_X4_isMissing : GoodIn wsX8_mean (wsV RX8 85 RX4 yX4_isMissing wsX4_isMissing) := goodIn_app (goodIn_of _ (by decide +kernel)) ggX8_mean_X4_isMissing
set_option maxRecDepth 20000 in
theorem ggX8_mean_X8_find : GoodIn wsX8_mean wsX8_find := goodIn_r _ [17, 18, 19, 25, 26, 27, 28, 29, 30, 31, 32, 33, 34, 35, 36] (by decide +kernel) (by decide +kernel)
set_option maxRecDepth 20000 in
theorem gX8_mean_X8_find : GoodIn wsX8_mean (wsV RX8 70 RX8 yX8_find wsX8_find) := goodIn_app (goodIn_of _ (by decide +kernel)) ggX8_mean_X8_find
set_option maxRecDepth 20000 in
theorem ggX8_mean_X4_sum : GoodIn wsX8_mean wsX4_sum := goodIn_r _ [23, 13, 24, 37, 38] (by decide +kernel) (by decide +kernel)
set_option maxRecDepth 20000 in
theorem gX8_mean_X4_sum : GoodIn wsX8_mean (wsV RX8 109 RX4 yX4_sum wsX4_sum) := goodIn_app (goodIn_of _ (by decide +kernel)) ggX8_mean_X4_sum
theorem dX8_mean_0 : decode cX8_mean 0 = .ok (.iload_n 1, 1) := by decide +kernel
theorem dX8_mean_1 : decode cX8_mean 1 = .ok (.invokestatic 66, 3) := by decide +kernel
theorem dX8_mean_4 : decode cX8_mean 4 = .ok (.ifCond .ne 5, 3) := by decide +kernel
theorem dX8_mean_7 : decode cX8_mean 7 = .ok (.iconst (-1), 1) := by decide +kernel
theorem dX8_mean_8 : decode cX8_mean 8 = .ok (.ireturn, 1) := by decide +kernel
theorem dX8_mean_9 : decode cX8_mean 9 = .ok (.aload_n 0, 1) := by decide +kernel
theorem dX8_mean_10 : decode cX8_mean 10 = .ok (.getfield 11, 3) := by decide +kernel
theorem dX8_mean_13 : decode cX8_mean 13 = .ok (.iload_n 1, 1) := by decide +kernel
theorem dX8_mean_14 : decode cX8_mean 14 = .ok (.aaload, 1) := by decide +kernel
theorem dX8_mean_15 : decode cX8_mean 15 = .ok (.astore_n 2, 1) := by decide +kernel
theorem dX8_mean_16 : decode cX8_mean 16 = .ok (.aload_n 2, 1) := by decide +kernel
theorem dX8_mean_17 : decode cX8_mean 17 = .ok (.invokevirtual 85, 3) := by decide +kernel
theorem dX8_mean_20 : decode cX8_mean 20 = .ok (.ifCond .eq 9, 3) := by decide +kernel
theorem dX8_mean_23 : decode cX8_mean 23 = .ok (.aload_n 0, 1) := by decide +kernel
theorem dX8_mean_24 : decode cX8_mean 24 = .ok (.iconst 1, 1) := by decide +kernel
theorem dX8_mean_25 : decode cX8_mean 25 = .ok (.invokevirtual 70, 3) := by decide +kernel
theorem dX8_mean_28 : decode cX8_mean 28 = .ok (.ireturn, 1) := by decide +kernel
theorem dX8_mean_29 : decode cX8_mean 29 = .ok (.aload_n 2, 1) := by decide +kernel
theorem dX8_mean_30 : decode cX8_mean 30 = .ok (.getfield 96, 3) := by decide +kernel
theorem dX8_mean_33 : decode cX8_mean 33 = .ok (.ifCond .ne 9, 3) := by decide +kernel
theorem dX8_mean_36 : decode cX8_mean 36 = .ok (.aload_n 0, 1) := by decide +kernel
theorem dX8_mean_37 : decode cX8_mean 37 = .ok (.iconst 4, 1) := by decide +kernel
theorem dX8_mean_38 : decode cX8_mean 38 = .ok (.invokevirtual 70, 3) := by decide +kernel
theorem dX8_mean_41 : decode cX8_mean 41 = .ok (.ireturn, 1) := by decide +kernel
theorem dX8_mean_42 : decode cX8_mean 42 = .ok (.aload_n 0, 1) := by decide +kernel
theorem dX8_mean_43 : decode cX8_mean 43 = .ok (.aload_n 2, 1) := by decide +kernel
theorem dX8_mean_44 : decode cX8_mean 44 = .ok (.invokevirtual 109, 3) := by decide +kernel
theorem dX8_mean_47 : decode cX8_mean 47 = .ok (.aload_n 2, 1) := by decide +kernel
theorem dX8_mean_48 : decode cX8_mean 48 = .ok (.getfield 96, 3) := by decide +kernel
theorem dX8_mean_51 : decode cX8_mean 51 = .ok (.i2l, 1) := by decide +kernel
theorem dX8_mean_52 : decode cX8_mean 52 = .ok (.ldiv, 1) := by decide +kernel
theorem dX8_mean_53 : decode cX8_mean 53 = .ok (.l2i, 1) := by decide +kernel
theorem dX8_mean_54 : decode cX8_mean 54 = .ok (.putfield 92, 3) := by decide +kernel
theorem dX8_mean_57 : decode cX8_mean 57 = .ok (.iconst 1, 1) := by decide +kernel
theorem dX8_mean_58 : decode cX8_mean 58 = .ok (.ireturn, 1) := by decide +kernel
set_option maxRecDepth 20000 in
theorem ggX8_text_X8_isText : GoodIn wsX8_text wsX8_isText := goodIn_r _ [5] (by decide +kernel) (by decide +kernel)
set_option maxRecDepth 20000 in
theorem gX8_text_X8_isText : GoodIn wsX8_text (va_wsS RX8 113 yX8_isText wsX8_isText) := goodIn_app (goodIn_of _ (by decide +kernel)) ggX8_text_X8_isText
set_option maxRecDepth 20000 in
theorem ggX8_text_X8_find : GoodIn wsX8_text wsX8_find := goodIn_r _ [9, 10, 11, 19, 20, 21, 22, 23, 24, 25, 26, 27, 28, 29, 30] (by decide +kernel) (by decide +kernel)
set_option maxRecDepth 20000 in
theorem gX8_text_X8_find : GoodIn wsX8_text (wsV RX8 70 RX8 yX8_find wsX8_find) := goodIn_app (goodIn_of _ (by decide +kernel)) ggX8_text_X8_find
set_option maxRecDepth 20000 in
theorem ggX8_text_X7_begin : GoodIn wsX8_text wsX7_begin := goodIn_r _ [16, 17, 18, 31, 32] (by decide +kernel) (by decide +kernel)
set_option maxRecDepth 20000 in
theorem gX8_text_X7_begin : GoodIn wsX8_text (wsV RX8 116 RX7 yX7_begin wsX7_begin) := goodIn_app (goodIn_of _ (by decide +kernel)) ggX8_text_X7_begin
theorem dX8_text_0 : decode cX8_text 0 = .ok (.iload_n 1, 1) := by decide +kernel
theorem dX8_text_1 : decode cX8_text 1 = .ok (.invokestatic 113, 3) := by decide +kernel
theorem dX8_text_4 : decode cX8_text 4 = .ok (.ifCond .eq 9, 3) := by decide +kernel
theorem dX8_text_7 : decode cX8_text 7 = .ok (.iload_n 2, 1) := by decide +kernel
theorem dX8_text_8 : decode cX8_text 8 = .ok (.bipush 80, 2) := by decide +kernel
theorem dX8_text_10 : decode cX8_text 10 = .ok (.if_icmp .le 5, 3) := by decide +kernel
theorem dX8_text_13 : decode cX8_text 13 = .ok (.iconst (-1), 1) := by decide +kernel
theorem dX8_text_14 : decode cX8_text 14 = .ok (.ireturn, 1) := by decide +kernel
theorem dX8_text_15 : decode cX8_text 15 = .ok (.iload_n 2, 1) := by decide +kernel
theorem dX8_text_16 : decode cX8_text 16 = .ok (.ifCond .ge 9, 3) := by decide +kernel
theorem dX8_text_19 : decode cX8_text 19 = .ok (.aload_n 0, 1) := by decide +kernel
theorem dX8_text_20 : decode cX8_text 20 = .ok (.iconst 5, 1) := by decide +kernel
theorem dX8_text_21 : decode cX8_text 21 = .ok (.invokevirtual 70, 3) := by decide +kernel
theorem dX8_text_24 : decode cX8_text 24 = .ok (.ireturn, 1) := by decide +kernel
theorem dX8_text_25 : decode cX8_text 25 = .ok (.aload_n 0, 1) := by decide +kernel
theorem dX8_text_26 : decode cX8_text 26 = .ok (.getfield 17, 3) := by decide +kernel
theorem dX8_text_29 : decode cX8_text 29 = .ok (.iload_n 1, 1) := by decide +kernel
theorem dX8_text_30 : decode cX8_text 30 = .ok (.aaload, 1) := by decide +kernel
theorem dX8_text_31 : decode cX8_text 31 = .ok (.iload_n 2, 1) := by decide +kernel
theorem dX8_text_32 : decode cX8_text 32 = .ok (.invokevirtual 116, 3) := by decide +kernel
theorem dX8_text_35 : decode cX8_text 35 = .ok (.iload_n 2, 1) := by decide +kernel
theorem dX8_text_36 : decode cX8_text 36 = .ok (.ireturn, 1) := by decide +kernel
set_option maxRecDepth 20000 in
theorem ggX8_put_X8_isText : GoodIn wsX8_put wsX8_isText := goodIn_r _ [6] (by decide +kernel) (by decide +kernel)
set_option maxRecDepth 20000 in
theorem gX8_put_X8_isText : GoodIn wsX8_put (va_wsS RX8 113 yX8_isText wsX8_isText) := goodIn_app (goodIn_of _ (by decide +kernel)) ggX8_put_X8_isText
set_option maxRecDepth 20000 in
theorem ggX8_put_X7_isMissing : GoodIn wsX8_put wsX7_isMissing := goodIn_r _ [11, 12, 35, 36] (by decide +kernel) (by decide +kernel)
set_option maxRecDepth 20000 in
theorem gX8_put_X7_isMissing : GoodIn wsX8_put (wsV RX8 117 RX7 yX7_isMissing wsX7_isMissing) := goodIn_app (goodIn_of _ (by decide +kernel)) ggX8_put_X7_isMissing
set_option maxRecDepth 20000 in
theorem ggX8_put_X8_find : GoodIn wsX8_put wsX8_find := goodIn_r _ [16, 17, 18, 23, 24, 25, 26, 27, 28, 29, 30, 31, 32, 33, 34] (by decide +kernel) (by decide +kernel)
set_option maxRecDepth 20000 in
theorem gX8_put_X8_find : GoodIn wsX8_put (wsV RX8 70 RX8 yX8_find wsX8_find) := goodIn_app (goodIn_of _ (by decide +kernel)) ggX8_put_X8_find
set_option maxRecDepth 20000 in
theorem ggX8_put_X7_has : GoodIn wsX8_put wsX7_has := goodIn_r _ [22, 12, 35, 36] (by decide +kernel) (by decide +kernel)
set_option maxRecDepth 20000 in
theorem gX8_put_X7_has : GoodIn wsX8_put (wsV RX8 118 RX7 yX7_has wsX7_has) := goodIn_app (goodIn_of _ (by decide +kernel)) ggX8_put_X7_has
theorem dX8_put_0 : decode cX8_put 0 = .ok (.iload_n 1, 1) := by decide +kernel
theorem dX8_put_1 : decode cX8_put 1 = .ok (.invokestatic 113, 3) := by decide +kernel
theorem dX8_put_4 : decode cX8_put 4 = .ok (.ifCond .ne 5, 3) := by decide +kernel
theorem dX8_put_7 : decode cX8_put 7 = .ok (.iconst (-1), 1) := by decide +kernel
theorem dX8_put_8 : decode cX8_put 8 = .ok (.ireturn, 1) := by decide +kernel
theorem dX8_put_9 : decode cX8_put 9 = .ok (.aload_n 0, 1) := by decide +kernel
theorem dX8_put_10 : decode cX8_put 10 = .ok (.getfield 17, 3) := by decide +kernel
theorem dX8_put_13 : decode cX8_put 13 = .ok (.iload_n 1, 1) := by decide +kernel
theorem dX8_put_14 : decode cX8_put 14 = .ok (.aaload, 1) := by decide +kernel
theorem dX8_put_15 : decode cX8_put 15 = .ok (.astore 4, 2) := by decide +kernel
theorem dX8_put_17 : decode cX8_put 17 = .ok (.aload 4, 2) := by decide +kernel
theorem dX8_put_19 : decode cX8_put 19 = .ok (.invokevirtual 117, 3) := by decide +kernel
theorem dX8_put_22 : decode cX8_put 22 = .ok (.ifCond .eq 9, 3) := by decide +kernel
theorem dX8_put_25 : decode cX8_put 25 = .ok (.aload_n 0, 1) := by decide +kernel
theorem dX8_put_26 : decode cX8_put 26 = .ok (.iconst 1, 1) := by decide +kernel
theorem dX8_put_27 : decode cX8_put 27 = .ok (.invokevirtual 70, 3) := by decide +kernel
theorem dX8_put_30 : decode cX8_put 30 = .ok (.ireturn, 1) := by decide +kernel
theorem dX8_put_31 : decode cX8_put 31 = .ok (.aload 4, 2) := by decide +kernel
theorem dX8_put_33 : decode cX8_put 33 = .ok (.iload_n 2, 1) := by decide +kernel
theorem dX8_put_34 : decode cX8_put 34 = .ok (.invokevirtual 118, 3) := by decide +kernel
theorem dX8_put_37 : decode cX8_put 37 = .ok (.ifCond .ne 9, 3) := by decide +kernel
theorem dX8_put_40 : decode cX8_put 40 = .ok (.aload_n 0, 1) := by decide +kernel
theorem dX8_put_41 : decode cX8_put 41 = .ok (.iconst 2, 1) := by decide +kernel
theorem dX8_put_42 : decode cX8_put 42 = .ok (.invokevirtual 70, 3) := by decide +kernel
theorem dX8_put_45 : decode cX8_put 45 = .ok (.ireturn, 1) := by decide +kernel
theorem dX8_put_46 : decode cX8_put 46 = .ok (.aload 4, 2) := by decide +kernel
theorem dX8_put_48 : decode cX8_put 48 = .ok (.getfield 119, 3) := by decide +kernel
theorem dX8_put_51 : decode cX8_put 51 = .ok (.iload_n 2, 1) := by decide +kernel
theorem dX8_put_52 : decode cX8_put 52 = .ok (.baload, 1) := by decide +kernel
theorem dX8_put_53 : decode cX8_put 53 = .ok (.istore 5, 2) := by decide +kernel
theorem dX8_put_55 : decode cX8_put 55 = .ok (.aload 4, 2) := by decide +kernel
theorem dX8_put_57 : decode cX8_put 57 = .ok (.getfield 119, 3) := by decide +kernel
theorem dX8_put_60 : decode cX8_put 60 = .ok (.iload_n 2, 1) := by decide +kernel
theorem dX8_put_61 : decode cX8_put 61 = .ok (.iload_n 3, 1) := by decide +kernel
theorem dX8_put_62 : decode cX8_put 62 = .ok (.i2b, 1) := by decide +kernel
theorem dX8_put_63 : decode cX8_put 63 = .ok (.bastore, 1) := by decide +kernel
theorem dX8_put_64 : decode cX8_put 64 = .ok (.iload 5, 2) := by decide +kernel
theorem dX8_put_66 : decode cX8_put 66 = .ok (.sipush 1000, 3) := by decide +kernel
theorem dX8_put_69 : decode cX8_put 69 = .ok (.iadd, 1) := by decide +kernel
theorem dX8_put_70 : decode cX8_put 70 = .ok (.ireturn, 1) := by decide +kernel
set_option maxRecDepth 20000 in
theorem ggX8_fault_X8_isText : GoodIn wsX8_fault wsX8_isText := goodIn_r _ [6] (by decide +kernel) (by decide +kernel)
set_option maxRecDepth 20000 in
theorem gX8_fault_X8_isText : GoodIn wsX8_fault (va_wsS RX8 113 yX8_isText wsX8_isText) := goodIn_app (goodIn_of _ (by decide +kernel)) ggX8_fault_X8_isText
set_option maxRecDepth 20000 in
theorem ggX8_fault_X7_isMissing : GoodIn wsX8_fault wsX7_isMissing := goodIn_r _ [11, 12, 83, 84] (by decide +kernel) (by decide +kernel)
set_option maxRecDepth 20000 in
theorem gX8_fault_X7_isMissing : GoodIn wsX8_fault (wsV RX8 117 RX7 yX7_isMissing wsX7_isMissing) := goodIn_app (goodIn_of _ (by decide +kernel)) ggX8_fault_X7_isMissing
set_option maxRecDepth 20000 in
theorem ggX8_fault_X8_find : GoodIn wsX8_fault wsX8_find := goodIn_r _ [16, 17, 18, 71, 72, 73, 74, 75, 76, 77, 78, 79, 80, 81, 82] (by decide +kernel) (by decide +kernel)
set_option maxRecDepth 20000 in
theorem gX8_fault_X8_find : GoodIn wsX8_fault (wsV RX8 70 RX8 yX8_find wsX8_find) := goodIn_app (goodIn_of _ (by decide +kernel)) ggX8_fault_X8_find
set_option maxRecDepth 20000 in
theorem ggX8_fault_X6_readFrom : GoodIn wsX8_fault wsX6_readFrom := goodIn_r _ [23, 24, 25, 26, 27, 28, 29, 30, 31, 32, 33, 34, 35, 36, 37, 38, 10, 39, 12, 40, 41, 42, 43, 44, 45, 46, 47, 48, 49, 50, 51, 52, 53, 54, 55, 56, 22, 57, 58, 59, 60, 61, 62, 63, 64, 65, 66, 67, 68, 69, 70, 85, 86, 87, 88, 89, 90, 91, 92, 93, 94, 95, 96, 97, 98, 99, 100, 101, 83, 84] (by decide +kernel) (by decide +kernel)
set_option maxRecDepth 20000 in
theorem gX8_fault_X6_readFrom : GoodIn wsX8_fault (wsV RX8 123 RX6 yX6_readFrom wsX6_readFrom) := goodIn_app (goodIn_of _ (by decide +kernel)) ggX8_fault_X6_readFrom
theorem dX8_fault_0 : decode cX8_fault 0 = .ok (.iload_n 1, 1) := by decide +kernel
theorem dX8_fault_1 : decode cX8_fault 1 = .ok (.invokestatic 113, 3) := by decide +kernel
theorem dX8_fault_4 : decode cX8_fault 4 = .ok (.ifCond .ne 5, 3) := by decide +kernel
theorem dX8_fault_7 : decode cX8_fault 7 = .ok (.iconst (-1), 1) := by decide +kernel
theorem dX8_fault_8 : decode cX8_fault 8 = .ok (.ireturn, 1) := by decide +kernel
theorem dX8_fault_9 : decode cX8_fault 9 = .ok (.aload_n 0, 1) := by decide +kernel
theorem dX8_fault_10 : decode cX8_fault 10 = .ok (.getfield 17, 3) := by decide +kernel
theorem dX8_fault_13 : decode cX8_fault 13 = .ok (.iload_n 1, 1) := by decide +kernel
theorem dX8_fault_14 : decode cX8_fault 14 = .ok (.aaload, 1) := by decide +kernel
theorem dX8_fault_15 : decode cX8_fault 15 = .ok (.invokevirtual 117, 3) := by decide +kernel
theorem dX8_fault_18 : decode cX8_fault 18 = .ok (.ifCond .eq 9, 3) := by decide +kernel
theorem dX8_fault_21 : decode cX8_fault 21 = .ok (.aload_n 0, 1) := by decide +kernel
theorem dX8_fault_22 : decode cX8_fault 22 = .ok (.iconst 1, 1) := by decide +kernel
theorem dX8_fault_23 : decode cX8_fault 23 = .ok (.invokevirtual 70, 3) := by decide +kernel
theorem dX8_fault_26 : decode cX8_fault 26 = .ok (.ireturn, 1) := by decide +kernel
theorem dX8_fault_27 : decode cX8_fault 27 = .ok (.aload_n 0, 1) := by decide +kernel
theorem dX8_fault_28 : decode cX8_fault 28 = .ok (.getfield 28, 3) := by decide +kernel
theorem dX8_fault_31 : decode cX8_fault 31 = .ok (.aload_n 0, 1) := by decide +kernel
theorem dX8_fault_32 : decode cX8_fault 32 = .ok (.getfield 17, 3) := by decide +kernel
theorem dX8_fault_35 : decode cX8_fault 35 = .ok (.iload_n 1, 1) := by decide +kernel
theorem dX8_fault_36 : decode cX8_fault 36 = .ok (.aaload, 1) := by decide +kernel
theorem dX8_fault_37 : decode cX8_fault 37 = .ok (.invokevirtual 123, 3) := by decide +kernel
theorem dX8_fault_40 : decode cX8_fault 40 = .ok (.ireturn, 1) := by decide +kernel
set_option maxRecDepth 20000 in
theorem ggX8_street_X8_isText : GoodIn wsX8_street wsX8_isText := goodIn_r _ [9] (by decide +kernel) (by decide +kernel)
set_option maxRecDepth 20000 in
theorem gX8_street_X8_isText : GoodIn wsX8_street (va_wsS RX8 113 yX8_isText wsX8_isText) := goodIn_app (goodIn_of _ (by decide +kernel)) ggX8_street_X8_isText
set_option maxRecDepth 20000 in
theorem ggX8_street_X7_isMissing : GoodIn wsX8_street wsX7_isMissing := goodIn_r _ [14, 15, 117, 118] (by decide +kernel) (by decide +kernel)
set_option maxRecDepth 20000 in
theorem gX8_street_X7_isMissing : GoodIn wsX8_street (wsV RX8 117 RX7 yX7_isMissing wsX7_isMissing) := goodIn_app (goodIn_of _ (by decide +kernel)) ggX8_street_X7_isMissing
set_option maxRecDepth 20000 in
theorem ggX8_street_X8_find : GoodIn wsX8_street wsX8_find := goodIn_r _ [19, 20, 21, 94, 95, 96, 97, 98, 99, 100, 101, 102, 103, 104, 105] (by decide +kernel) (by decide +kernel)
set_option maxRecDepth 20000 in
theorem gX8_street_X8_find : GoodIn wsX8_street (wsV RX8 70 RX8 yX8_find wsX8_find) := goodIn_app (goodIn_of _ (by decide +kernel)) ggX8_street_X8_find
set_option maxRecDepth 20000 in
theorem ggX8_street_X6_readFrom : GoodIn wsX8_street wsX6_readFrom := goodIn_r _ [26, 27, 28, 29, 30, 31, 32, 33, 34, 35, 36, 37, 38, 39, 40, 41, 13, 42, 15, 43, 44, 45, 46, 47, 48, 49, 50, 51, 52, 53, 54, 55, 56, 57, 58, 59, 25, 60, 61, 62, 63, 64, 65, 66, 67, 68, 69, 70, 71, 72, 73, 106, 107, 108, 109, 110, 111, 112, 113, 114, 115, 116, 119, 120, 121, 122, 123, 124, 117, 118] (by decide +kernel) (by decide +kernel)
set_option maxRecDepth 20000 in
theorem gX8_street_X6_readFrom : GoodIn wsX8_street (wsV RX8 123 RX6 yX6_readFrom wsX6_readFrom) := goodIn_app (goodIn_of _ (by decide +kernel)) ggX8_street_X6_readFrom
set_option maxRecDepth 20000 in
theorem ggX8_street_X6_become : GoodIn wsX8_street wsX6_become := goodIn_r _ [77, 27, 28, 29, 31, 78, 79, 80, 81, 61, 67, 68, 82, 83, 84, 30, 85, 86, 87, 35, 88, 89, 90, 91, 92, 93, 37, 38, 106, 107, 108, 109, 110, 111, 112, 113, 114, 115, 116, 119, 120, 121, 122, 123, 124] (by decide +kernel) (by decide +kernel)
set_option maxRecDepth 20000 in
theorem gX8_street_X6_become : GoodIn wsX8_street (wsV RX8 127 RX6 yX6_become wsX6_become) := goodIn_app (goodIn_of _ (by decide +kernel)) ggX8_street_X6_become
theorem dX8_street_0 : decode cX8_street 0 = .ok (.iload_n 1, 1) := by decide +kernel
theorem dX8_street_1 : decode cX8_street 1 = .ok (.invokestatic 113, 3) := by decide +kernel
theorem dX8_street_4 : decode cX8_street 4 = .ok (.ifCond .ne 5, 3) := by decide +kernel
theorem dX8_street_7 : decode cX8_street 7 = .ok (.iconst (-1), 1) := by decide +kernel
theorem dX8_street_8 : decode cX8_street 8 = .ok (.ireturn, 1) := by decide +kernel
theorem dX8_street_9 : decode cX8_street 9 = .ok (.aload_n 0, 1) := by decide +kernel
theorem dX8_street_10 : decode cX8_street 10 = .ok (.getfield 17, 3) := by decide +kernel
theorem dX8_street_13 : decode cX8_street 13 = .ok (.iload_n 1, 1) := by decide +kernel
theorem dX8_street_14 : decode cX8_street 14 = .ok (.aaload, 1) := by decide +kernel
theorem dX8_street_15 : decode cX8_street 15 = .ok (.invokevirtual 117, 3) := by decide +kernel
theorem dX8_street_18 : decode cX8_street 18 = .ok (.ifCond .eq 9, 3) := by decide +kernel
theorem dX8_street_21 : decode cX8_street 21 = .ok (.aload_n 0, 1) := by decide +kernel
theorem dX8_street_22 : decode cX8_street 22 = .ok (.iconst 1, 1) := by decide +kernel
theorem dX8_street_23 : decode cX8_street 23 = .ok (.invokevirtual 70, 3) := by decide +kernel
theorem dX8_street_26 : decode cX8_street 26 = .ok (.ireturn, 1) := by decide +kernel
theorem dX8_street_27 : decode cX8_street 27 = .ok (.aload_n 0, 1) := by decide +kernel
theorem dX8_street_28 : decode cX8_street 28 = .ok (.getfield 28, 3) := by decide +kernel
theorem dX8_street_31 : decode cX8_street 31 = .ok (.aload_n 0, 1) := by decide +kernel
theorem dX8_street_32 : decode cX8_street 32 = .ok (.getfield 17, 3) := by decide +kernel
theorem dX8_street_35 : decode cX8_street 35 = .ok (.iload_n 1, 1) := by decide +kernel
theorem dX8_street_36 : decode cX8_street 36 = .ok (.aaload, 1) := by decide +kernel
theorem dX8_street_37 : decode cX8_street 37 = .ok (.invokevirtual 123, 3) := by decide +kernel
theorem dX8_street_40 : decode cX8_street 40 = .ok (.bipush (-9), 2) := by decide +kernel
theorem dX8_street_42 : decode cX8_street 42 = .ok (.if_icmp .eq 6, 3) := by decide +kernel
theorem dX8_street_45 : decode cX8_street 45 = .ok (.bipush (-4), 2) := by decide +kernel
theorem dX8_street_47 : decode cX8_street 47 = .ok (.ireturn, 1) := by decide +kernel
theorem dX8_street_48 : decode cX8_street 48 = .ok (.aload_n 0, 1) := by decide +kernel
theorem dX8_street_49 : decode cX8_street 49 = .ok (.getfield 24, 3) := by decide +kernel
theorem dX8_street_52 : decode cX8_street 52 = .ok (.aload_n 0, 1) := by decide +kernel
theorem dX8_street_53 : decode cX8_street 53 = .ok (.getfield 28, 3) := by decide +kernel
theorem dX8_street_56 : decode cX8_street 56 = .ok (.invokevirtual 127, 3) := by decide +kernel
theorem dX8_street_59 : decode cX8_street 59 = .ok (.iconst 0, 1) := by decide +kernel
theorem dX8_street_60 : decode cX8_street 60 = .ok (.istore_n 2, 1) := by decide +kernel
theorem dX8_street_61 : decode cX8_street 61 = .ok (.iload_n 2, 1) := by decide +kernel
theorem dX8_street_62 : decode cX8_street 62 = .ok (.iconst 3, 1) := by decide +kernel
theorem dX8_street_63 : decode cX8_street 63 = .ok (.if_icmp .ge 16, 3) := by decide +kernel
theorem dX8_street_66 : decode cX8_street 66 = .ok (.aload_n 0, 1) := by decide +kernel
theorem dX8_street_67 : decode cX8_street 67 = .ok (.getfield 35, 3) := by decide +kernel
theorem dX8_street_70 : decode cX8_street 70 = .ok (.iload_n 2, 1) := by decide +kernel
theorem dX8_street_71 : decode cX8_street 71 = .ok (.iconst 0, 1) := by decide +kernel
theorem dX8_street_72 : decode cX8_street 72 = .ok (.bastore, 1) := by decide +kernel
theorem dX8_street_73 : decode cX8_street 73 = .ok (.iinc 2 1, 3) := by decide +kernel
theorem dX8_street_76 : decode cX8_street 76 = .ok (.goto (-15), 3) := by decide +kernel
theorem dX8_street_79 : decode cX8_street 79 = .ok (.aload_n 0, 1) := by decide +kernel
theorem dX8_street_80 : decode cX8_street 80 = .ok (.getfield 24, 3) := by decide +kernel
theorem dX8_street_83 : decode cX8_street 83 = .ok (.getfield 131, 3) := by decide +kernel
theorem dX8_street_86 : decode cX8_street 86 = .ok (.ireturn, 1) := by decide +kernel
set_option maxRecDepth 20000 in
theorem ggX8_person_X8_isOne : GoodIn wsX8_person wsX8_isOne := goodIn_r _ [7, 1, 8, 29, 30, 31, 32, 33, 34, 35, 36, 37, 38, 39, 40, 41, 42, 43, 44, 45, 46, 47, 48, 49, 50, 51] (by decide +kernel) (by decide +kernel)
set_option maxRecDepth 20000 in
theorem gX8_person_X8_isOne : GoodIn wsX8_person (wsV RX8 134 RX8 yX8_isOne wsX8_isOne) := goodIn_app (goodIn_of _ (by decide +kernel)) ggX8_person_X8_isOne
set_option maxRecDepth 20000 in
theorem ggX8_person_X6_trait : GoodIn wsX8_person wsX6_trait := goodIn_r _ [13, 14, 15, 16, 17, 18, 19, 20, 21, 22, 23, 24, 25, 26, 27, 28, 41, 42, 43, 44, 45, 46, 47, 48, 49, 50, 51, 52, 53, 54, 55, 56, 57] (by decide +kernel) (by decide +kernel)
set_option maxRecDepth 20000 in
theorem gX8_person_X6_trait : GoodIn wsX8_person (wsV RX8 137 RX6 yX6_trait wsX6_trait) := goodIn_app (goodIn_of _ (by decide +kernel)) ggX8_person_X6_trait
theorem dX8_person_0 : decode cX8_person 0 = .ok (.aload_n 0, 1) := by decide +kernel
theorem dX8_person_1 : decode cX8_person 1 = .ok (.iload_n 1, 1) := by decide +kernel
theorem dX8_person_2 : decode cX8_person 2 = .ok (.invokevirtual 134, 3) := by decide +kernel
theorem dX8_person_5 : decode cX8_person 5 = .ok (.ifCond .eq 12, 3) := by decide +kernel
theorem dX8_person_8 : decode cX8_person 8 = .ok (.iload_n 2, 1) := by decide +kernel
theorem dX8_person_9 : decode cX8_person 9 = .ok (.ifCond .lt 8, 3) := by decide +kernel
theorem dX8_person_12 : decode cX8_person 12 = .ok (.iload_n 2, 1) := by decide +kernel
theorem dX8_person_13 : decode cX8_person 13 = .ok (.iconst 5, 1) := by decide +kernel
theorem dX8_person_14 : decode cX8_person 14 = .ok (.if_icmp .lt 5, 3) := by decide +kernel
theorem dX8_person_17 : decode cX8_person 17 = .ok (.iconst (-1), 1) := by decide +kernel
theorem dX8_person_18 : decode cX8_person 18 = .ok (.ireturn, 1) := by decide +kernel
theorem dX8_person_19 : decode cX8_person 19 = .ok (.aload_n 0, 1) := by decide +kernel
theorem dX8_person_20 : decode cX8_person 20 = .ok (.aload_n 0, 1) := by decide +kernel
theorem dX8_person_21 : decode cX8_person 21 = .ok (.getfield 24, 3) := by decide +kernel
theorem dX8_person_24 : decode cX8_person 24 = .ok (.iload_n 1, 1) := by decide +kernel
theorem dX8_person_25 : decode cX8_person 25 = .ok (.iload_n 2, 1) := by decide +kernel
theorem dX8_person_26 : decode cX8_person 26 = .ok (.invokevirtual 137, 3) := by decide +kernel
theorem dX8_person_29 : decode cX8_person 29 = .ok (.putfield 92, 3) := by decide +kernel
theorem dX8_person_32 : decode cX8_person 32 = .ok (.iconst 1, 1) := by decide +kernel
theorem dX8_person_33 : decode cX8_person 33 = .ok (.ireturn, 1) := by decide +kernel
set_option maxRecDepth 20000 in
theorem ggX8_mark_X8_isOne : GoodIn wsX8_mark wsX8_isOne := goodIn_r _ [7, 1, 8, 77, 78, 79, 80, 81, 82, 83, 84, 85, 86, 87, 88, 89, 90, 91, 92, 93, 94, 95, 96, 97, 98, 99] (by decide +kernel) (by decide +kernel)
set_option maxRecDepth 20000 in
theorem gX8_mark_X8_isOne : GoodIn wsX8_mark (wsV RX8 134 RX8 yX8_isOne wsX8_isOne) := goodIn_app (goodIn_of _ (by decide +kernel)) ggX8_mark_X8_isOne
set_option maxRecDepth 20000 in
theorem ggX8_mark_X2_isOf : GoodIn wsX8_mark wsX2_isOf := goodIn_r _ [12, 13] (by decide +kernel) (by decide +kernel)
set_option maxRecDepth 20000 in
theorem gX8_mark_X2_isOf : GoodIn wsX8_mark (va_wsS RX8 145 yX2_isOf wsX2_isOf) := goodIn_app (goodIn_of _ (by decide +kernel)) ggX8_mark_X2_isOf
set_option maxRecDepth 20000 in
theorem ggX8_mark_X8_find : GoodIn wsX8_mark wsX8_find := goodIn_r _ [17, 18, 19, 77, 78, 79, 80, 81, 82, 83, 84, 85, 86, 87, 88] (by decide +kernel) (by decide +kernel)
set_option maxRecDepth 20000 in
theorem gX8_mark_X8_find : GoodIn wsX8_mark (wsV RX8 70 RX8 yX8_find wsX8_find) := goodIn_app (goodIn_of _ (by decide +kernel)) ggX8_mark_X8_find
set_option maxRecDepth 20000 in
theorem ggX8_mark_X6_whoHear : GoodIn wsX8_mark wsX6_whoHear := goodIn_r _ [24, 25, 26, 27, 23, 28, 29, 30, 31, 32, 33, 34, 35, 36, 37, 38, 39, 40, 41, 42, 43, 44, 45, 46, 47, 48, 49, 50, 51, 52, 53, 54, 55, 11, 56, 57, 89, 90, 91, 92, 93, 94, 95, 96, 97, 98, 99] (by decide +kernel) (by decide +kernel)
set_option maxRecDepth 20000 in
theorem gX8_mark_X6_whoHear : GoodIn wsX8_mark (wsV RX8 148 RX6 yX6_whoHear wsX6_whoHear) := goodIn_app (goodIn_of _ (by decide +kernel)) ggX8_mark_X6_whoHear
set_option maxRecDepth 20000 in
theorem ggX8_mark_J6_bitCount_0f7a4 : GoodIn wsX8_mark wsJ6_bitCount_0f7a4 := goodIn_r _ [61, 62, 63, 64] (by decide +kernel) (by decide +kernel)
set_option maxRecDepth 20000 in
theorem gX8_mark_J6_bitCount_0f7a4 : GoodIn wsX8_mark (va_wsS RX8 151 yJ6_bitCount_0f7a4 wsJ6_bitCount_0f7a4) := goodIn_app (goodIn_of _ (by decide +kernel)) ggX8_mark_J6_bitCount_0f7a4
set_option maxRecDepth 20000 in
theorem ggX8_mark_X6_othersIn : GoodIn wsX8_mark wsX6_othersIn := goodIn_r _ [68, 29, 34, 89, 90, 91, 92, 93, 94, 95, 96, 97, 98, 99] (by decide +kernel) (by decide +kernel)
set_option maxRecDepth 20000 in
theorem gX8_mark_X6_othersIn : GoodIn wsX8_mark (wsV RX8 156 RX6 yX6_othersIn wsX6_othersIn) := goodIn_app (goodIn_of _ (by decide +kernel)) ggX8_mark_X6_othersIn
set_option maxRecDepth 20000 in
theorem ggX8_mark_X6_howManyHeardAs : GoodIn wsX8_mark wsX6_howManyHeardAs := goodIn_r _ [72, 29, 34, 50, 51, 52, 23, 53, 36, 41, 46, 47, 48, 39, 49, 54, 55, 11, 56, 57, 89, 90, 91, 92, 93, 94, 95, 96, 97, 98, 99] (by decide +kernel) (by decide +kernel)
set_option maxRecDepth 20000 in
theorem gX8_mark_X6_howManyHeardAs : GoodIn wsX8_mark (wsV RX8 159 RX6 yX6_howManyHeardAs wsX6_howManyHeardAs) := goodIn_app (goodIn_of _ (by decide +kernel)) ggX8_mark_X6_howManyHeardAs
set_option maxRecDepth 20000 in
theorem ggX8_mark_X6_songIn : GoodIn wsX8_mark wsX6_songIn := goodIn_r _ [76, 35, 42, 43, 44, 23, 45, 29, 41, 46, 34, 47, 48, 39, 49, 37, 38, 40, 89, 90, 91, 92, 93, 94, 95, 96, 97, 98, 99] (by decide +kernel) (by decide +kernel)
set_option maxRecDepth 20000 in
theorem gX8_mark_X6_songIn : GoodIn wsX8_mark (wsV RX8 162 RX6 yX6_songIn wsX6_songIn) := goodIn_app (goodIn_of _ (by decide +kernel)) ggX8_mark_X6_songIn
theorem dX8_mark_0 : decode cX8_mark 0 = .ok (.aload_n 0, 1) := by decide +kernel
theorem dX8_mark_1 : decode cX8_mark 1 = .ok (.iload_n 1, 1) := by decide +kernel
theorem dX8_mark_2 : decode cX8_mark 2 = .ok (.invokevirtual 134, 3) := by decide +kernel
theorem dX8_mark_5 : decode cX8_mark 5 = .ok (.ifCond .eq 13, 3) := by decide +kernel
theorem dX8_mark_8 : decode cX8_mark 8 = .ok (.iload_n 2, 1) := by decide +kernel
theorem dX8_mark_9 : decode cX8_mark 9 = .ok (.ifCond .le 9, 3) := by decide +kernel
theorem dX8_mark_12 : decode cX8_mark 12 = .ok (.iload_n 2, 1) := by decide +kernel
theorem dX8_mark_13 : decode cX8_mark 13 = .ok (.bipush 6, 2) := by decide +kernel
theorem dX8_mark_15 : decode cX8_mark 15 = .ok (.if_icmp .lt 5, 3) := by decide +kernel
theorem dX8_mark_18 : decode cX8_mark 18 = .ok (.iconst (-1), 1) := by decide +kernel
theorem dX8_mark_19 : decode cX8_mark 19 = .ok (.ireturn, 1) := by decide +kernel
theorem dX8_mark_20 : decode cX8_mark 20 = .ok (.aload_n 0, 1) := by decide +kernel
theorem dX8_mark_21 : decode cX8_mark 21 = .ok (.getfield 24, 3) := by decide +kernel
theorem dX8_mark_24 : decode cX8_mark 24 = .ok (.getfield 142, 3) := by decide +kernel
theorem dX8_mark_27 : decode cX8_mark 27 = .ok (.iload_n 1, 1) := by decide +kernel
theorem dX8_mark_28 : decode cX8_mark 28 = .ok (.iaload, 1) := by decide +kernel
theorem dX8_mark_29 : decode cX8_mark 29 = .ok (.iload_n 2, 1) := by decide +kernel
theorem dX8_mark_30 : decode cX8_mark 30 = .ok (.invokestatic 145, 3) := by decide +kernel
theorem dX8_mark_33 : decode cX8_mark 33 = .ok (.ifCond .ne 9, 3) := by decide +kernel
theorem dX8_mark_36 : decode cX8_mark 36 = .ok (.aload_n 0, 1) := by decide +kernel
theorem dX8_mark_37 : decode cX8_mark 37 = .ok (.iconst 3, 1) := by decide +kernel
theorem dX8_mark_38 : decode cX8_mark 38 = .ok (.invokevirtual 70, 3) := by decide +kernel
theorem dX8_mark_41 : decode cX8_mark 41 = .ok (.ireturn, 1) := by decide +kernel
theorem dX8_mark_42 : decode cX8_mark 42 = .ok (.iload_n 2, 1) := by decide +kernel
theorem dX8_mark_43 : decode cX8_mark 43 = .ok (.tableswitch 73 1 4 #[29, 42, 51, 61], 29) := by decide +kernel
theorem dX8_mark_72 : decode cX8_mark 72 = .ok (.aload_n 0, 1) := by decide +kernel
theorem dX8_mark_73 : decode cX8_mark 73 = .ok (.getfield 24, 3) := by decide +kernel
theorem dX8_mark_76 : decode cX8_mark 76 = .ok (.iload_n 1, 1) := by decide +kernel
theorem dX8_mark_77 : decode cX8_mark 77 = .ok (.iconst 0, 1) := by decide +kernel
theorem dX8_mark_78 : decode cX8_mark 78 = .ok (.invokevirtual 148, 3) := by decide +kernel
theorem dX8_mark_81 : decode cX8_mark 81 = .ok (.invokestatic 151, 3) := by decide +kernel
theorem dX8_mark_84 : decode cX8_mark 84 = .ok (.ireturn, 1) := by decide +kernel
theorem dX8_mark_85 : decode cX8_mark 85 = .ok (.aload_n 0, 1) := by decide +kernel
theorem dX8_mark_86 : decode cX8_mark 86 = .ok (.getfield 24, 3) := by decide +kernel
theorem dX8_mark_89 : decode cX8_mark 89 = .ok (.iload_n 1, 1) := by decide +kernel
theorem dX8_mark_90 : decode cX8_mark 90 = .ok (.invokevirtual 156, 3) := by decide +kernel
theorem dX8_mark_93 : decode cX8_mark 93 = .ok (.ireturn, 1) := by decide +kernel
theorem dX8_mark_94 : decode cX8_mark 94 = .ok (.aload_n 0, 1) := by decide +kernel
theorem dX8_mark_95 : decode cX8_mark 95 = .ok (.getfield 24, 3) := by decide +kernel
theorem dX8_mark_98 : decode cX8_mark 98 = .ok (.iload_n 1, 1) := by decide +kernel
theorem dX8_mark_99 : decode cX8_mark 99 = .ok (.iconst 3, 1) := by decide +kernel
theorem dX8_mark_100 : decode cX8_mark 100 = .ok (.invokevirtual 159, 3) := by decide +kernel
theorem dX8_mark_103 : decode cX8_mark 103 = .ok (.ireturn, 1) := by decide +kernel
theorem dX8_mark_104 : decode cX8_mark 104 = .ok (.aload_n 0, 1) := by decide +kernel
theorem dX8_mark_105 : decode cX8_mark 105 = .ok (.getfield 24, 3) := by decide +kernel
theorem dX8_mark_108 : decode cX8_mark 108 = .ok (.iconst 0, 1) := by decide +kernel
theorem dX8_mark_109 : decode cX8_mark 109 = .ok (.iconst 1, 1) := by decide +kernel
theorem dX8_mark_110 : decode cX8_mark 110 = .ok (.iload_n 1, 1) := by decide +kernel
theorem dX8_mark_111 : decode cX8_mark 111 = .ok (.ishl, 1) := by decide +kernel
theorem dX8_mark_112 : decode cX8_mark 112 = .ok (.invokevirtual 162, 3) := by decide +kernel
theorem dX8_mark_115 : decode cX8_mark 115 = .ok (.ireturn, 1) := by decide +kernel
theorem dX8_mark_116 : decode cX8_mark 116 = .ok (.aload_n 0, 1) := by decide +kernel
theorem dX8_mark_117 : decode cX8_mark 117 = .ok (.getfield 24, 3) := by decide +kernel
theorem dX8_mark_120 : decode cX8_mark 120 = .ok (.iload_n 1, 1) := by decide +kernel
theorem dX8_mark_121 : decode cX8_mark 121 = .ok (.iconst 5, 1) := by decide +kernel
theorem dX8_mark_122 : decode cX8_mark 122 = .ok (.invokevirtual 159, 3) := by decide +kernel
theorem dX8_mark_125 : decode cX8_mark 125 = .ok (.aload_n 0, 1) := by decide +kernel
theorem dX8_mark_126 : decode cX8_mark 126 = .ok (.getfield 24, 3) := by decide +kernel
theorem dX8_mark_129 : decode cX8_mark 129 = .ok (.iload_n 1, 1) := by decide +kernel
theorem dX8_mark_130 : decode cX8_mark 130 = .ok (.iconst 0, 1) := by decide +kernel
theorem dX8_mark_131 : decode cX8_mark 131 = .ok (.invokevirtual 159, 3) := by decide +kernel
theorem dX8_mark_134 : decode cX8_mark 134 = .ok (.isub, 1) := by decide +kernel
theorem dX8_mark_135 : decode cX8_mark 135 = .ok (.ireturn, 1) := by decide +kernel
set_option maxRecDepth 20000 in
theorem ggX8_wall_X6_measure : GoodIn wsX8_wall wsX6_measure := goodIn_r _ [8, 9, 10, 11, 24, 25, 26, 27, 28, 29, 30, 31, 32, 33, 34] (by decide +kernel) (by decide +kernel)
set_option maxRecDepth 20000 in
theorem gX8_wall_X6_measure : GoodIn wsX8_wall (wsV RX8 171 RX6 yX6_measure wsX6_measure) := goodIn_app (goodIn_of _ (by decide +kernel)) ggX8_wall_X6_measure
theorem dX8_wall_0 : decode cX8_wall 0 = .ok (.iload_n 1, 1) := by decide +kernel
theorem dX8_wall_1 : decode cX8_wall 1 = .ok (.ifCond .lt 24, 3) := by decide +kernel
theorem dX8_wall_4 : decode cX8_wall 4 = .ok (.iload_n 1, 1) := by decide +kernel
theorem dX8_wall_5 : decode cX8_wall 5 = .ok (.aload_n 0, 1) := by decide +kernel
theorem dX8_wall_6 : decode cX8_wall 6 = .ok (.getfield 24, 3) := by decide +kernel
theorem dX8_wall_9 : decode cX8_wall 9 = .ok (.getfield 165, 3) := by decide +kernel
theorem dX8_wall_12 : decode cX8_wall 12 = .ok (.if_icmp .ge 13, 3) := by decide +kernel
theorem dX8_wall_15 : decode cX8_wall 15 = .ok (.iload_n 2, 1) := by decide +kernel
theorem dX8_wall_16 : decode cX8_wall 16 = .ok (.ifCond .lt 9, 3) := by decide +kernel
theorem dX8_wall_19 : decode cX8_wall 19 = .ok (.iload_n 2, 1) := by decide +kernel
theorem dX8_wall_20 : decode cX8_wall 20 = .ok (.bipush 20, 2) := by decide +kernel
theorem dX8_wall_22 : decode cX8_wall 22 = .ok (.if_icmp .le 5, 3) := by decide +kernel
theorem dX8_wall_25 : decode cX8_wall 25 = .ok (.iconst (-1), 1) := by decide +kernel
theorem dX8_wall_26 : decode cX8_wall 26 = .ok (.ireturn, 1) := by decide +kernel
theorem dX8_wall_27 : decode cX8_wall 27 = .ok (.aload_n 0, 1) := by decide +kernel
theorem dX8_wall_28 : decode cX8_wall 28 = .ok (.getfield 24, 3) := by decide +kernel
theorem dX8_wall_31 : decode cX8_wall 31 = .ok (.getfield 168, 3) := by decide +kernel
theorem dX8_wall_34 : decode cX8_wall 34 = .ok (.iload_n 1, 1) := by decide +kernel
theorem dX8_wall_35 : decode cX8_wall 35 = .ok (.iaload, 1) := by decide +kernel
theorem dX8_wall_36 : decode cX8_wall 36 = .ok (.istore_n 3, 1) := by decide +kernel
theorem dX8_wall_37 : decode cX8_wall 37 = .ok (.aload_n 0, 1) := by decide +kernel
theorem dX8_wall_38 : decode cX8_wall 38 = .ok (.getfield 24, 3) := by decide +kernel
theorem dX8_wall_41 : decode cX8_wall 41 = .ok (.getfield 168, 3) := by decide +kernel
theorem dX8_wall_44 : decode cX8_wall 44 = .ok (.iload_n 1, 1) := by decide +kernel
theorem dX8_wall_45 : decode cX8_wall 45 = .ok (.iload_n 2, 1) := by decide +kernel
theorem dX8_wall_46 : decode cX8_wall 46 = .ok (.iastore, 1) := by decide +kernel
theorem dX8_wall_47 : decode cX8_wall 47 = .ok (.aload_n 0, 1) := by decide +kernel
theorem dX8_wall_48 : decode cX8_wall 48 = .ok (.getfield 24, 3) := by decide +kernel
theorem dX8_wall_51 : decode cX8_wall 51 = .ok (.invokevirtual 171, 3) := by decide +kernel
theorem dX8_wall_54 : decode cX8_wall 54 = .ok (.iload_n 3, 1) := by decide +kernel
theorem dX8_wall_55 : decode cX8_wall 55 = .ok (.ireturn, 1) := by decide +kernel
set_option maxRecDepth 20000 in
theorem ggX8_move_X8_isOne : GoodIn wsX8_move wsX8_isOne := goodIn_r _ [7, 1, 8, 14, 15, 16, 17, 18, 19, 20, 21, 22, 23, 24, 25, 26, 27, 28, 29, 30, 31, 32, 33, 34, 35, 36] (by decide +kernel) (by decide +kernel)
set_option maxRecDepth 20000 in
theorem gX8_move_X8_isOne : GoodIn wsX8_move (wsV RX8 134 RX8 yX8_isOne wsX8_isOne) := goodIn_app (goodIn_of _ (by decide +kernel)) ggX8_move_X8_isOne
set_option maxRecDepth 20000 in
theorem ggX8_move_X8_isRoom : GoodIn wsX8_move wsX8_isRoom := goodIn_r _ [12, 1, 13, 14, 15, 16, 17, 18, 19, 20, 21, 22, 23, 24, 25, 26, 27, 28, 29, 30, 31, 32, 33, 34, 35, 36] (by decide +kernel) (by decide +kernel)
set_option maxRecDepth 20000 in
theorem gX8_move_X8_isRoom : GoodIn wsX8_move (wsV RX8 174 RX8 yX8_isRoom wsX8_isRoom) := goodIn_app (goodIn_of _ (by decide +kernel)) ggX8_move_X8_isRoom
theorem dX8_move_0 : decode cX8_move 0 = .ok (.aload_n 0, 1) := by decide +kernel
theorem dX8_move_1 : decode cX8_move 1 = .ok (.iload_n 1, 1) := by decide +kernel
theorem dX8_move_2 : decode cX8_move 2 = .ok (.invokevirtual 134, 3) := by decide +kernel
theorem dX8_move_5 : decode cX8_move 5 = .ok (.ifCond .eq 11, 3) := by decide +kernel
theorem dX8_move_8 : decode cX8_move 8 = .ok (.aload_n 0, 1) := by decide +kernel
theorem dX8_move_9 : decode cX8_move 9 = .ok (.iload_n 2, 1) := by decide +kernel
theorem dX8_move_10 : decode cX8_move 10 = .ok (.invokevirtual 174, 3) := by decide +kernel
theorem dX8_move_13 : decode cX8_move 13 = .ok (.ifCond .ne 5, 3) := by decide +kernel
theorem dX8_move_16 : decode cX8_move 16 = .ok (.iconst (-1), 1) := by decide +kernel
theorem dX8_move_17 : decode cX8_move 17 = .ok (.ireturn, 1) := by decide +kernel
theorem dX8_move_18 : decode cX8_move 18 = .ok (.aload_n 0, 1) := by decide +kernel
theorem dX8_move_19 : decode cX8_move 19 = .ok (.getfield 24, 3) := by decide +kernel
theorem dX8_move_22 : decode cX8_move 22 = .ok (.getfield 177, 3) := by decide +kernel
theorem dX8_move_25 : decode cX8_move 25 = .ok (.iload_n 1, 1) := by decide +kernel
theorem dX8_move_26 : decode cX8_move 26 = .ok (.iaload, 1) := by decide +kernel
theorem dX8_move_27 : decode cX8_move 27 = .ok (.istore_n 3, 1) := by decide +kernel
theorem dX8_move_28 : decode cX8_move 28 = .ok (.aload_n 0, 1) := by decide +kernel
theorem dX8_move_29 : decode cX8_move 29 = .ok (.getfield 24, 3) := by decide +kernel
theorem dX8_move_32 : decode cX8_move 32 = .ok (.getfield 177, 3) := by decide +kernel
theorem dX8_move_35 : decode cX8_move 35 = .ok (.iload_n 1, 1) := by decide +kernel
theorem dX8_move_36 : decode cX8_move 36 = .ok (.iload_n 2, 1) := by decide +kernel
theorem dX8_move_37 : decode cX8_move 37 = .ok (.iastore, 1) := by decide +kernel
theorem dX8_move_38 : decode cX8_move 38 = .ok (.iload_n 3, 1) := by decide +kernel
theorem dX8_move_39 : decode cX8_move 39 = .ok (.ireturn, 1) := by decide +kernel
set_option maxRecDepth 20000 in
theorem ggX8_hears_X8_areTwo : GoodIn wsX8_hears wsX8_areTwo := goodIn_r _ [8, 9, 10, 11, 7, 12, 1, 13, 37, 38, 39, 40, 41, 42, 43, 44, 45, 46, 47, 48, 49, 50, 51, 52, 53, 54, 55, 56, 57, 58, 59] (by decide +kernel) (by decide +kernel)
set_option maxRecDepth 20000 in
theorem gX8_hears_X8_areTwo : GoodIn wsX8_hears (wsV RX8 180 RX8 yX8_areTwo wsX8_areTwo) := goodIn_app (goodIn_of _ (by decide +kernel)) ggX8_hears_X8_areTwo
set_option maxRecDepth 20000 in
theorem ggX8_hears_X6_comesTo : GoodIn wsX8_hears wsX6_comesTo := goodIn_r _ [18, 19, 20, 21, 22, 23, 24, 25, 26, 49, 50, 51, 52, 53, 54, 55, 56, 57, 58, 59] (by decide +kernel) (by decide +kernel)
set_option maxRecDepth 20000 in
theorem gX8_hears_X6_comesTo : GoodIn wsX8_hears (wsV RX8 183 RX6 yX6_comesTo wsX6_comesTo) := goodIn_app (goodIn_of _ (by decide +kernel)) ggX8_hears_X6_comesTo
set_option maxRecDepth 20000 in
theorem ggX8_hears_X6_isHeardBy : GoodIn wsX8_hears wsX6_isHeardBy := goodIn_r _ [30, 20, 22, 31, 15, 16, 17, 18, 19, 21, 23, 24, 25, 26, 32, 33, 34, 35, 36, 49, 50, 51, 52, 53, 54, 55, 56, 57, 58, 59] (by decide +kernel) (by decide +kernel)
set_option maxRecDepth 20000 in
theorem gX8_hears_X6_isHeardBy : GoodIn wsX8_hears (wsV RX8 186 RX6 yX6_isHeardBy wsX6_isHeardBy) := goodIn_app (goodIn_of _ (by decide +kernel)) ggX8_hears_X6_isHeardBy
theorem dX8_hears_0 : decode cX8_hears 0 = .ok (.aload_n 0, 1) := by decide +kernel
theorem dX8_hears_1 : decode cX8_hears 1 = .ok (.iload_n 1, 1) := by decide +kernel
theorem dX8_hears_2 : decode cX8_hears 2 = .ok (.iload_n 2, 1) := by decide +kernel
theorem dX8_hears_3 : decode cX8_hears 3 = .ok (.invokevirtual 180, 3) := by decide +kernel
theorem dX8_hears_6 : decode cX8_hears 6 = .ok (.ifCond .ne 5, 3) := by decide +kernel
theorem dX8_hears_9 : decode cX8_hears 9 = .ok (.iconst (-1), 1) := by decide +kernel
theorem dX8_hears_10 : decode cX8_hears 10 = .ok (.ireturn, 1) := by decide +kernel
theorem dX8_hears_11 : decode cX8_hears 11 = .ok (.aload_n 0, 1) := by decide +kernel
theorem dX8_hears_12 : decode cX8_hears 12 = .ok (.aload_n 0, 1) := by decide +kernel
theorem dX8_hears_13 : decode cX8_hears 13 = .ok (.getfield 24, 3) := by decide +kernel
theorem dX8_hears_16 : decode cX8_hears 16 = .ok (.aload_n 0, 1) := by decide +kernel
theorem dX8_hears_17 : decode cX8_hears 17 = .ok (.getfield 24, 3) := by decide +kernel
theorem dX8_hears_20 : decode cX8_hears 20 = .ok (.getfield 177, 3) := by decide +kernel
theorem dX8_hears_23 : decode cX8_hears 23 = .ok (.iload_n 1, 1) := by decide +kernel
theorem dX8_hears_24 : decode cX8_hears 24 = .ok (.iaload, 1) := by decide +kernel
theorem dX8_hears_25 : decode cX8_hears 25 = .ok (.iload_n 2, 1) := by decide +kernel
theorem dX8_hears_26 : decode cX8_hears 26 = .ok (.invokevirtual 183, 3) := by decide +kernel
theorem dX8_hears_29 : decode cX8_hears 29 = .ok (.putfield 92, 3) := by decide +kernel
theorem dX8_hears_32 : decode cX8_hears 32 = .ok (.aload_n 0, 1) := by decide +kernel
theorem dX8_hears_33 : decode cX8_hears 33 = .ok (.getfield 24, 3) := by decide +kernel
theorem dX8_hears_36 : decode cX8_hears 36 = .ok (.iload_n 1, 1) := by decide +kernel
theorem dX8_hears_37 : decode cX8_hears 37 = .ok (.iload_n 2, 1) := by decide +kernel
theorem dX8_hears_38 : decode cX8_hears 38 = .ok (.invokevirtual 186, 3) := by decide +kernel
theorem dX8_hears_41 : decode cX8_hears 41 = .ok (.ifCond .eq 7, 3) := by decide +kernel
theorem dX8_hears_44 : decode cX8_hears 44 = .ok (.iconst 1, 1) := by decide +kernel
theorem dX8_hears_45 : decode cX8_hears 45 = .ok (.goto 4, 3) := by decide +kernel
theorem dX8_hears_48 : decode cX8_hears 48 = .ok (.iconst 0, 1) := by decide +kernel
theorem dX8_hears_49 : decode cX8_hears 49 = .ok (.ireturn, 1) := by decide +kernel
set_option maxRecDepth 20000 in
theorem ggX8_heard_X8_isOne : GoodIn wsX8_heard wsX8_isOne := goodIn_r _ [6, 1, 7, 52, 53, 54, 55, 56, 57, 58, 59, 60, 61, 62, 63, 64, 65, 66, 67, 68, 69, 70, 71, 72, 73, 74] (by decide +kernel) (by decide +kernel)
set_option maxRecDepth 20000 in
theorem gX8_heard_X8_isOne : GoodIn wsX8_heard (wsV RX8 134 RX8 yX8_isOne wsX8_isOne) := goodIn_app (goodIn_of _ (by decide +kernel)) ggX8_heard_X8_isOne
set_option maxRecDepth 20000 in
theorem ggX8_heard_X8_isSet : GoodIn wsX8_heard wsX8_isSet := goodIn_r _ [11, 1, 12, 13, 14, 15, 16, 17, 52, 53, 54, 55, 56, 57, 58, 59, 60, 61, 62, 63, 64, 65, 66, 67, 68, 69, 70, 71, 72, 73, 74] (by decide +kernel) (by decide +kernel)
set_option maxRecDepth 20000 in
theorem gX8_heard_X8_isSet : GoodIn wsX8_heard (wsV RX8 189 RX8 yX8_isSet wsX8_isSet) := goodIn_app (goodIn_of _ (by decide +kernel)) ggX8_heard_X8_isSet
set_option maxRecDepth 20000 in
theorem ggX8_heard_X6_whoHear : GoodIn wsX8_heard wsX6_whoHear := goodIn_r _ [21, 22, 13, 14, 15, 16, 17, 23, 24, 25, 26, 27, 28, 29, 30, 31, 32, 33, 34, 35, 36, 37, 38, 39, 40, 41, 42, 43, 44, 45, 46, 47, 48, 49, 50, 51, 64, 65, 66, 67, 68, 69, 70, 71, 72, 73, 74] (by decide +kernel) (by decide +kernel)
set_option maxRecDepth 20000 in
theorem gX8_heard_X6_whoHear : GoodIn wsX8_heard (wsV RX8 148 RX6 yX6_whoHear wsX6_whoHear) := goodIn_app (goodIn_of _ (by decide +kernel)) ggX8_heard_X6_whoHear
theorem dX8_heard_0 : decode cX8_heard 0 = .ok (.aload_n 0, 1) := by decide +kernel
theorem dX8_heard_1 : decode cX8_heard 1 = .ok (.iload_n 1, 1) := by decide +kernel
theorem dX8_heard_2 : decode cX8_heard 2 = .ok (.invokevirtual 134, 3) := by decide +kernel
theorem dX8_heard_5 : decode cX8_heard 5 = .ok (.ifCond .eq 19, 3) := by decide +kernel
theorem dX8_heard_8 : decode cX8_heard 8 = .ok (.aload_n 0, 1) := by decide +kernel
theorem dX8_heard_9 : decode cX8_heard 9 = .ok (.iload_n 2, 1) := by decide +kernel
theorem dX8_heard_10 : decode cX8_heard 10 = .ok (.invokevirtual 189, 3) := by decide +kernel
theorem dX8_heard_13 : decode cX8_heard 13 = .ok (.ifCond .eq 11, 3) := by decide +kernel
theorem dX8_heard_16 : decode cX8_heard 16 = .ok (.iload_n 2, 1) := by decide +kernel
theorem dX8_heard_17 : decode cX8_heard 17 = .ok (.iload_n 1, 1) := by decide +kernel
theorem dX8_heard_18 : decode cX8_heard 18 = .ok (.ishr, 1) := by decide +kernel
theorem dX8_heard_19 : decode cX8_heard 19 = .ok (.iconst 1, 1) := by decide +kernel
theorem dX8_heard_20 : decode cX8_heard 20 = .ok (.iand, 1) := by decide +kernel
theorem dX8_heard_21 : decode cX8_heard 21 = .ok (.ifCond .eq 5, 3) := by decide +kernel
theorem dX8_heard_24 : decode cX8_heard 24 = .ok (.iconst (-1), 1) := by decide +kernel
theorem dX8_heard_25 : decode cX8_heard 25 = .ok (.ireturn, 1) := by decide +kernel
theorem dX8_heard_26 : decode cX8_heard 26 = .ok (.aload_n 0, 1) := by decide +kernel
theorem dX8_heard_27 : decode cX8_heard 27 = .ok (.getfield 24, 3) := by decide +kernel
theorem dX8_heard_30 : decode cX8_heard 30 = .ok (.iload_n 1, 1) := by decide +kernel
theorem dX8_heard_31 : decode cX8_heard 31 = .ok (.iload_n 2, 1) := by decide +kernel
theorem dX8_heard_32 : decode cX8_heard 32 = .ok (.invokevirtual 148, 3) := by decide +kernel
theorem dX8_heard_35 : decode cX8_heard 35 = .ok (.ireturn, 1) := by decide +kernel
set_option maxRecDepth 20000 in
theorem ggX8_noise_X8_isRoom : GoodIn wsX8_noise wsX8_isRoom := goodIn_r _ [6, 1, 7, 37, 38, 39, 40, 41, 42, 43, 44, 45, 46, 47, 48, 49, 50, 51, 52, 53, 54, 55, 56, 57, 58, 59] (by decide +kernel) (by decide +kernel)
set_option maxRecDepth 20000 in
theorem gX8_noise_X8_isRoom : GoodIn wsX8_noise (wsV RX8 174 RX8 yX8_isRoom wsX8_isRoom) := goodIn_app (goodIn_of _ (by decide +kernel)) ggX8_noise_X8_isRoom
set_option maxRecDepth 20000 in
theorem ggX8_noise_X8_isSet : GoodIn wsX8_noise wsX8_isSet := goodIn_r _ [11, 1, 12, 13, 14, 15, 16, 17, 37, 38, 39, 40, 41, 42, 43, 44, 45, 46, 47, 48, 49, 50, 51, 52, 53, 54, 55, 56, 57, 58, 59] (by decide +kernel) (by decide +kernel)
set_option maxRecDepth 20000 in
theorem gX8_noise_X8_isSet : GoodIn wsX8_noise (wsV RX8 189 RX8 yX8_isSet wsX8_isSet) := goodIn_app (goodIn_of _ (by decide +kernel)) ggX8_noise_X8_isSet
set_option maxRecDepth 20000 in
theorem ggX8_noise_X6_songIn : GoodIn wsX8_noise wsX6_songIn := goodIn_r _ [21, 22, 23, 24, 25, 15, 26, 17, 27, 28, 29, 30, 31, 32, 33, 34, 35, 36, 49, 50, 51, 52, 53, 54, 55, 56, 57, 58, 59] (by decide +kernel) (by decide +kernel)
set_option maxRecDepth 20000 in
theorem gX8_noise_X6_songIn : GoodIn wsX8_noise (wsV RX8 162 RX6 yX6_songIn wsX6_songIn) := goodIn_app (goodIn_of _ (by decide +kernel)) ggX8_noise_X6_songIn
theorem dX8_noise_0 : decode cX8_noise 0 = .ok (.aload_n 0, 1) := by decide +kernel
theorem dX8_noise_1 : decode cX8_noise 1 = .ok (.iload_n 1, 1) := by decide +kernel
theorem dX8_noise_2 : decode cX8_noise 2 = .ok (.invokevirtual 174, 3) := by decide +kernel
theorem dX8_noise_5 : decode cX8_noise 5 = .ok (.ifCond .eq 11, 3) := by decide +kernel
theorem dX8_noise_8 : decode cX8_noise 8 = .ok (.aload_n 0, 1) := by decide +kernel
theorem dX8_noise_9 : decode cX8_noise 9 = .ok (.iload_n 2, 1) := by decide +kernel
theorem dX8_noise_10 : decode cX8_noise 10 = .ok (.invokevirtual 189, 3) := by decide +kernel
theorem dX8_noise_13 : decode cX8_noise 13 = .ok (.ifCond .ne 5, 3) := by decide +kernel
theorem dX8_noise_16 : decode cX8_noise 16 = .ok (.iconst (-1), 1) := by decide +kernel
theorem dX8_noise_17 : decode cX8_noise 17 = .ok (.ireturn, 1) := by decide +kernel
theorem dX8_noise_18 : decode cX8_noise 18 = .ok (.aload_n 0, 1) := by decide +kernel
theorem dX8_noise_19 : decode cX8_noise 19 = .ok (.getfield 24, 3) := by decide +kernel
theorem dX8_noise_22 : decode cX8_noise 22 = .ok (.iload_n 1, 1) := by decide +kernel
theorem dX8_noise_23 : decode cX8_noise 23 = .ok (.iload_n 2, 1) := by decide +kernel
theorem dX8_noise_24 : decode cX8_noise 24 = .ok (.invokevirtual 162, 3) := by decide +kernel
theorem dX8_noise_27 : decode cX8_noise 27 = .ok (.ireturn, 1) := by decide +kernel
set_option maxRecDepth 20000 in
theorem ggX8_hush_X8_isOne : GoodIn wsX8_hush wsX8_isOne := goodIn_r _ [6, 1, 7, 63, 64, 65, 66, 67, 68, 69, 70, 71, 72, 73, 74, 75, 76, 77, 78, 79, 80, 81, 82, 83, 84, 85] (by decide +kernel) (by decide +kernel)
set_option maxRecDepth 20000 in
theorem gX8_hush_X8_isOne : GoodIn wsX8_hush (wsV RX8 134 RX8 yX8_isOne wsX8_isOne) := goodIn_app (goodIn_of _ (by decide +kernel)) ggX8_hush_X8_isOne
set_option maxRecDepth 20000 in
theorem ggX8_hush_X6_everyone : GoodIn wsX8_hush wsX6_everyone := goodIn_r _ [12, 13, 75, 76, 77, 78, 79, 80, 81, 82, 83, 84, 85] (by decide +kernel) (by decide +kernel)
set_option maxRecDepth 20000 in
theorem gX8_hush_X6_everyone : GoodIn wsX8_hush (wsV RX8 192 RX6 yX6_everyone wsX6_everyone) := goodIn_app (goodIn_of _ (by decide +kernel)) ggX8_hush_X6_everyone
set_option maxRecDepth 20000 in
theorem ggX8_hush_X8_isFewer : GoodIn wsX8_hush wsX8_isFewer := goodIn_r _ [16, 17, 18, 19, 20, 21, 22, 23] (by decide +kernel) (by decide +kernel)
set_option maxRecDepth 20000 in
theorem gX8_hush_X8_isFewer : GoodIn wsX8_hush (va_wsS RX8 196 yX8_isFewer wsX8_isFewer) := goodIn_app (goodIn_of _ (by decide +kernel)) ggX8_hush_X8_isFewer
set_option maxRecDepth 20000 in
theorem ggX8_hush_X6_whoHear : GoodIn wsX8_hush wsX6_whoHear := goodIn_r _ [27, 28, 9, 10, 11, 12, 13, 29, 30, 31, 32, 33, 34, 35, 36, 37, 38, 39, 40, 41, 42, 43, 44, 45, 46, 47, 48, 49, 50, 51, 52, 53, 54, 55, 56, 57, 75, 76, 77, 78, 79, 80, 81, 82, 83, 84, 85] (by decide +kernel) (by decide +kernel)
set_option maxRecDepth 20000 in
theorem gX8_hush_X6_whoHear : GoodIn wsX8_hush (wsV RX8 148 RX6 yX6_whoHear wsX6_whoHear) := goodIn_app (goodIn_of _ (by decide +kernel)) ggX8_hush_X6_whoHear
set_option maxRecDepth 20000 in
theorem ggX8_hush_X8_tellSet : GoodIn wsX8_hush wsX8_tellSet := goodIn_r _ [61, 62, 17, 18, 19, 20, 21, 22, 23, 63, 64, 65, 66, 67, 68, 69, 70, 71, 72, 73, 74] (by decide +kernel) (by decide +kernel)
set_option maxRecDepth 20000 in
theorem gX8_hush_X8_tellSet : GoodIn wsX8_hush (wsV RX8 199 RX8 yX8_tellSet wsX8_tellSet) := goodIn_app (goodIn_of _ (by decide +kernel)) ggX8_hush_X8_tellSet
theorem dX8_hush_0 : decode cX8_hush 0 = .ok (.aload_n 0, 1) := by decide +kernel
theorem dX8_hush_1 : decode cX8_hush 1 = .ok (.iload_n 1, 1) := by decide +kernel
theorem dX8_hush_2 : decode cX8_hush 2 = .ok (.invokevirtual 134, 3) := by decide +kernel
theorem dX8_hush_5 : decode cX8_hush 5 = .ok (.ifCond .ne 5, 3) := by decide +kernel
theorem dX8_hush_8 : decode cX8_hush 8 = .ok (.iconst (-1), 1) := by decide +kernel
theorem dX8_hush_9 : decode cX8_hush 9 = .ok (.ireturn, 1) := by decide +kernel
theorem dX8_hush_10 : decode cX8_hush 10 = .ok (.bipush (-9), 2) := by decide +kernel
theorem dX8_hush_12 : decode cX8_hush 12 = .ok (.istore_n 2, 1) := by decide +kernel
theorem dX8_hush_13 : decode cX8_hush 13 = .ok (.iconst 0, 1) := by decide +kernel
theorem dX8_hush_14 : decode cX8_hush 14 = .ok (.istore_n 3, 1) := by decide +kernel
theorem dX8_hush_15 : decode cX8_hush 15 = .ok (.iload_n 3, 1) := by decide +kernel
theorem dX8_hush_16 : decode cX8_hush 16 = .ok (.aload_n 0, 1) := by decide +kernel
theorem dX8_hush_17 : decode cX8_hush 17 = .ok (.getfield 24, 3) := by decide +kernel
theorem dX8_hush_20 : decode cX8_hush 20 = .ok (.invokevirtual 192, 3) := by decide +kernel
theorem dX8_hush_23 : decode cX8_hush 23 = .ok (.if_icmp .gt 39, 3) := by decide +kernel
theorem dX8_hush_26 : decode cX8_hush 26 = .ok (.iload_n 3, 1) := by decide +kernel
theorem dX8_hush_27 : decode cX8_hush 27 = .ok (.iload_n 1, 1) := by decide +kernel
theorem dX8_hush_28 : decode cX8_hush 28 = .ok (.ishr, 1) := by decide +kernel
theorem dX8_hush_29 : decode cX8_hush 29 = .ok (.iconst 1, 1) := by decide +kernel
theorem dX8_hush_30 : decode cX8_hush 30 = .ok (.iand, 1) := by decide +kernel
theorem dX8_hush_31 : decode cX8_hush 31 = .ok (.ifCond .ne 25, 3) := by decide +kernel
theorem dX8_hush_34 : decode cX8_hush 34 = .ok (.iload_n 3, 1) := by decide +kernel
theorem dX8_hush_35 : decode cX8_hush 35 = .ok (.iload_n 2, 1) := by decide +kernel
theorem dX8_hush_36 : decode cX8_hush 36 = .ok (.invokestatic 196, 3) := by decide +kernel
theorem dX8_hush_39 : decode cX8_hush 39 = .ok (.ifCond .eq 17, 3) := by decide +kernel
theorem dX8_hush_42 : decode cX8_hush 42 = .ok (.aload_n 0, 1) := by decide +kernel
theorem dX8_hush_43 : decode cX8_hush 43 = .ok (.getfield 24, 3) := by decide +kernel
theorem dX8_hush_46 : decode cX8_hush 46 = .ok (.iload_n 1, 1) := by decide +kernel
theorem dX8_hush_47 : decode cX8_hush 47 = .ok (.iload_n 3, 1) := by decide +kernel
theorem dX8_hush_48 : decode cX8_hush 48 = .ok (.invokevirtual 148, 3) := by decide +kernel
theorem dX8_hush_51 : decode cX8_hush 51 = .ok (.ifCond .ne 5, 3) := by decide +kernel
theorem dX8_hush_54 : decode cX8_hush 54 = .ok (.iload_n 3, 1) := by decide +kernel
theorem dX8_hush_55 : decode cX8_hush 55 = .ok (.istore_n 2, 1) := by decide +kernel
theorem dX8_hush_56 : decode cX8_hush 56 = .ok (.iinc 3 1, 3) := by decide +kernel
theorem dX8_hush_59 : decode cX8_hush 59 = .ok (.goto (-44), 3) := by decide +kernel
theorem dX8_hush_62 : decode cX8_hush 62 = .ok (.aload_n 0, 1) := by decide +kernel
theorem dX8_hush_63 : decode cX8_hush 63 = .ok (.iload_n 2, 1) := by decide +kernel
theorem dX8_hush_64 : decode cX8_hush 64 = .ok (.invokevirtual 199, 3) := by decide +kernel
theorem dX8_hush_67 : decode cX8_hush 67 = .ok (.ireturn, 1) := by decide +kernel
set_option maxRecDepth 20000 in
theorem ggX8_talk_X8_areTwo : GoodIn wsX8_talk wsX8_areTwo := goodIn_r _ [7, 8, 9, 10, 6, 11, 1, 12, 31, 32, 33, 34, 35, 36, 37, 38, 39, 40, 41, 42, 43, 44, 45, 46, 47, 48, 49, 50, 51, 52, 53] (by decide +kernel) (by decide +kernel)
set_option maxRecDepth 20000 in
theorem gX8_talk_X8_areTwo : GoodIn wsX8_talk (wsV RX8 180 RX8 yX8_areTwo wsX8_areTwo) := goodIn_app (goodIn_of _ (by decide +kernel)) ggX8_talk_X8_areTwo
set_option maxRecDepth 20000 in
theorem ggX8_talk_X8_isSet : GoodIn wsX8_talk wsX8_isSet := goodIn_r _ [16, 1, 17, 18, 19, 20, 21, 22, 31, 32, 33, 34, 35, 36, 37, 38, 39, 40, 41, 42, 43, 44, 45, 46, 47, 48, 49, 50, 51, 52, 53] (by decide +kernel) (by decide +kernel)
set_option maxRecDepth 20000 in
theorem gX8_talk_X8_isSet : GoodIn wsX8_talk (wsV RX8 189 RX8 yX8_isSet wsX8_isSet) := goodIn_app (goodIn_of _ (by decide +kernel)) ggX8_talk_X8_isSet
set_option maxRecDepth 20000 in
theorem ggX8_talk_X6_addTalk : GoodIn wsX8_talk wsX6_addTalk := goodIn_r _ [26, 27, 28, 29, 30, 43, 44, 45, 46, 47, 48, 49, 50, 51, 52, 53] (by decide +kernel) (by decide +kernel)
set_option maxRecDepth 20000 in
theorem gX8_talk_X6_addTalk : GoodIn wsX8_talk (wsV RX8 205 RX6 yX6_addTalk wsX6_addTalk) := goodIn_app (goodIn_of _ (by decide +kernel)) ggX8_talk_X6_addTalk
theorem dX8_talk_0 : decode cX8_talk 0 = .ok (.aload_n 0, 1) := by decide +kernel
theorem dX8_talk_1 : decode cX8_talk 1 = .ok (.iload_n 1, 1) := by decide +kernel
theorem dX8_talk_2 : decode cX8_talk 2 = .ok (.iload_n 2, 1) := by decide +kernel
theorem dX8_talk_3 : decode cX8_talk 3 = .ok (.invokevirtual 180, 3) := by decide +kernel
theorem dX8_talk_6 : decode cX8_talk 6 = .ok (.ifCond .eq 27, 3) := by decide +kernel
theorem dX8_talk_9 : decode cX8_talk 9 = .ok (.aload_n 0, 1) := by decide +kernel
theorem dX8_talk_10 : decode cX8_talk 10 = .ok (.iload_n 3, 1) := by decide +kernel
theorem dX8_talk_11 : decode cX8_talk 11 = .ok (.invokevirtual 189, 3) := by decide +kernel
theorem dX8_talk_14 : decode cX8_talk 14 = .ok (.ifCond .eq 19, 3) := by decide +kernel
theorem dX8_talk_17 : decode cX8_talk 17 = .ok (.iload_n 3, 1) := by decide +kernel
theorem dX8_talk_18 : decode cX8_talk 18 = .ok (.iload_n 1, 1) := by decide +kernel
theorem dX8_talk_19 : decode cX8_talk 19 = .ok (.ishr, 1) := by decide +kernel
theorem dX8_talk_20 : decode cX8_talk 20 = .ok (.iconst 1, 1) := by decide +kernel
theorem dX8_talk_21 : decode cX8_talk 21 = .ok (.iand, 1) := by decide +kernel
theorem dX8_talk_22 : decode cX8_talk 22 = .ok (.ifCond .ne 11, 3) := by decide +kernel
theorem dX8_talk_25 : decode cX8_talk 25 = .ok (.iload_n 3, 1) := by decide +kernel
theorem dX8_talk_26 : decode cX8_talk 26 = .ok (.iload_n 2, 1) := by decide +kernel
theorem dX8_talk_27 : decode cX8_talk 27 = .ok (.ishr, 1) := by decide +kernel
theorem dX8_talk_28 : decode cX8_talk 28 = .ok (.iconst 1, 1) := by decide +kernel
theorem dX8_talk_29 : decode cX8_talk 29 = .ok (.iand, 1) := by decide +kernel
theorem dX8_talk_30 : decode cX8_talk 30 = .ok (.ifCond .eq 5, 3) := by decide +kernel
theorem dX8_talk_33 : decode cX8_talk 33 = .ok (.iconst (-1), 1) := by decide +kernel
theorem dX8_talk_34 : decode cX8_talk 34 = .ok (.ireturn, 1) := by decide +kernel
theorem dX8_talk_35 : decode cX8_talk 35 = .ok (.aload_n 0, 1) := by decide +kernel
theorem dX8_talk_36 : decode cX8_talk 36 = .ok (.getfield 24, 3) := by decide +kernel
theorem dX8_talk_39 : decode cX8_talk 39 = .ok (.getfield 202, 3) := by decide +kernel
theorem dX8_talk_42 : decode cX8_talk 42 = .ok (.bipush 8, 2) := by decide +kernel
theorem dX8_talk_44 : decode cX8_talk 44 = .ok (.if_icmp .lt 6, 3) := by decide +kernel
theorem dX8_talk_47 : decode cX8_talk 47 = .ok (.bipush (-2), 2) := by decide +kernel
theorem dX8_talk_49 : decode cX8_talk 49 = .ok (.ireturn, 1) := by decide +kernel
theorem dX8_talk_50 : decode cX8_talk 50 = .ok (.aload_n 0, 1) := by decide +kernel
theorem dX8_talk_51 : decode cX8_talk 51 = .ok (.getfield 24, 3) := by decide +kernel
theorem dX8_talk_54 : decode cX8_talk 54 = .ok (.iload_n 1, 1) := by decide +kernel
theorem dX8_talk_55 : decode cX8_talk 55 = .ok (.iload_n 2, 1) := by decide +kernel
theorem dX8_talk_56 : decode cX8_talk 56 = .ok (.iload_n 3, 1) := by decide +kernel
theorem dX8_talk_57 : decode cX8_talk 57 = .ok (.invokevirtual 205, 3) := by decide +kernel
theorem dX8_talk_60 : decode cX8_talk 60 = .ok (.ireturn, 1) := by decide +kernel
theorem dX8_off_0 : decode cX8_off 0 = .ok (.iload_n 1, 1) := by decide +kernel
theorem dX8_off_1 : decode cX8_off 1 = .ok (.ifCond .lt 14, 3) := by decide +kernel
theorem dX8_off_4 : decode cX8_off 4 = .ok (.iload_n 1, 1) := by decide +kernel
theorem dX8_off_5 : decode cX8_off 5 = .ok (.aload_n 0, 1) := by decide +kernel
theorem dX8_off_6 : decode cX8_off 6 = .ok (.getfield 24, 3) := by decide +kernel
theorem dX8_off_9 : decode cX8_off 9 = .ok (.getfield 202, 3) := by decide +kernel
theorem dX8_off_12 : decode cX8_off 12 = .ok (.if_icmp .le 5, 3) := by decide +kernel
theorem dX8_off_15 : decode cX8_off 15 = .ok (.iconst (-1), 1) := by decide +kernel
theorem dX8_off_16 : decode cX8_off 16 = .ok (.ireturn, 1) := by decide +kernel
theorem dX8_off_17 : decode cX8_off 17 = .ok (.aload_n 0, 1) := by decide +kernel
theorem dX8_off_18 : decode cX8_off 18 = .ok (.getfield 24, 3) := by decide +kernel
theorem dX8_off_21 : decode cX8_off 21 = .ok (.getfield 202, 3) := by decide +kernel
theorem dX8_off_24 : decode cX8_off 24 = .ok (.iload_n 1, 1) := by decide +kernel
theorem dX8_off_25 : decode cX8_off 25 = .ok (.isub, 1) := by decide +kernel
theorem dX8_off_26 : decode cX8_off 26 = .ok (.istore_n 2, 1) := by decide +kernel
theorem dX8_off_27 : decode cX8_off 27 = .ok (.aload_n 0, 1) := by decide +kernel
theorem dX8_off_28 : decode cX8_off 28 = .ok (.getfield 24, 3) := by decide +kernel
theorem dX8_off_31 : decode cX8_off 31 = .ok (.iload_n 1, 1) := by decide +kernel
theorem dX8_off_32 : decode cX8_off 32 = .ok (.putfield 202, 3) := by decide +kernel
theorem dX8_off_35 : decode cX8_off 35 = .ok (.iload_n 2, 1) := by decide +kernel
theorem dX8_off_36 : decode cX8_off 36 = .ok (.ireturn, 1) := by decide +kernel
set_option maxRecDepth 20000 in
theorem ggX8_about_X8_find : GoodIn wsX8_about wsX8_find := goodIn_r _ [8, 9, 10, 19, 20, 21, 22, 23, 24, 25, 26, 27, 28, 29, 30] (by decide +kernel) (by decide +kernel)
set_option maxRecDepth 20000 in
theorem gX8_about_X8_find : GoodIn wsX8_about (wsV RX8 70 RX8 yX8_find wsX8_find) := goodIn_app (goodIn_of _ (by decide +kernel)) ggX8_about_X8_find
set_option maxRecDepth 20000 in
theorem ggX8_about_X6_point : GoodIn wsX8_about wsX6_point := goodIn_r _ [15, 16, 17, 18, 31, 32, 33, 34, 35, 36, 37, 38, 39, 40, 41] (by decide +kernel) (by decide +kernel)
set_option maxRecDepth 20000 in
theorem gX8_about_X6_point : GoodIn wsX8_about (wsV RX8 209 RX6 yX6_point wsX6_point) := goodIn_app (goodIn_of _ (by decide +kernel)) ggX8_about_X6_point
theorem dX8_about_0 : decode cX8_about 0 = .ok (.iload_n 1, 1) := by decide +kernel
theorem dX8_about_1 : decode cX8_about 1 = .ok (.ifCond .lt 12, 3) := by decide +kernel
theorem dX8_about_4 : decode cX8_about 4 = .ok (.iload_n 2, 1) := by decide +kernel
theorem dX8_about_5 : decode cX8_about 5 = .ok (.ifCond .lt 8, 3) := by decide +kernel
theorem dX8_about_8 : decode cX8_about 8 = .ok (.iload_n 2, 1) := by decide +kernel
theorem dX8_about_9 : decode cX8_about 9 = .ok (.iconst 3, 1) := by decide +kernel
theorem dX8_about_10 : decode cX8_about 10 = .ok (.if_icmp .lt 5, 3) := by decide +kernel
theorem dX8_about_13 : decode cX8_about 13 = .ok (.iconst (-1), 1) := by decide +kernel
theorem dX8_about_14 : decode cX8_about 14 = .ok (.ireturn, 1) := by decide +kernel
theorem dX8_about_15 : decode cX8_about 15 = .ok (.iload_n 1, 1) := by decide +kernel
theorem dX8_about_16 : decode cX8_about 16 = .ok (.aload_n 0, 1) := by decide +kernel
theorem dX8_about_17 : decode cX8_about 17 = .ok (.getfield 24, 3) := by decide +kernel
theorem dX8_about_20 : decode cX8_about 20 = .ok (.getfield 202, 3) := by decide +kernel
theorem dX8_about_23 : decode cX8_about 23 = .ok (.if_icmp .lt 9, 3) := by decide +kernel
theorem dX8_about_26 : decode cX8_about 26 = .ok (.aload_n 0, 1) := by decide +kernel
theorem dX8_about_27 : decode cX8_about 27 = .ok (.iconst 2, 1) := by decide +kernel
theorem dX8_about_28 : decode cX8_about 28 = .ok (.invokevirtual 70, 3) := by decide +kernel
theorem dX8_about_31 : decode cX8_about 31 = .ok (.ireturn, 1) := by decide +kernel
theorem dX8_about_32 : decode cX8_about 32 = .ok (.aload_n 0, 1) := by decide +kernel
theorem dX8_about_33 : decode cX8_about 33 = .ok (.aload_n 0, 1) := by decide +kernel
theorem dX8_about_34 : decode cX8_about 34 = .ok (.getfield 24, 3) := by decide +kernel
theorem dX8_about_37 : decode cX8_about 37 = .ok (.iload_n 1, 1) := by decide +kernel
theorem dX8_about_38 : decode cX8_about 38 = .ok (.iload_n 2, 1) := by decide +kernel
theorem dX8_about_39 : decode cX8_about 39 = .ok (.invokevirtual 209, 3) := by decide +kernel
theorem dX8_about_42 : decode cX8_about 42 = .ok (.putfield 92, 3) := by decide +kernel
theorem dX8_about_45 : decode cX8_about 45 = .ok (.iconst 1, 1) := by decide +kernel
theorem dX8_about_46 : decode cX8_about 46 = .ok (.ireturn, 1) := by decide +kernel
set_option maxRecDepth 20000 in
theorem ggX8_safe_X8_isSet : GoodIn wsX8_safe wsX8_isSet := goodIn_r _ [10, 1, 11, 12, 13, 14, 15, 16, 72, 73, 74, 75, 76, 77, 78, 79, 80, 81, 82, 83, 84, 85, 86, 87, 88, 89, 90, 91, 92, 93, 94] (by decide +kernel) (by decide +kernel)
set_option maxRecDepth 20000 in
theorem gX8_safe_X8_isSet : GoodIn wsX8_safe (wsV RX8 189 RX8 yX8_isSet wsX8_isSet) := goodIn_app (goodIn_of _ (by decide +kernel)) ggX8_safe_X8_isSet
set_option maxRecDepth 20000 in
theorem ggX8_safe_X8_find : GoodIn wsX8_safe wsX8_find := goodIn_r _ [20, 21, 22, 72, 73, 74, 75, 76, 77, 78, 79, 80, 81, 82, 83] (by decide +kernel) (by decide +kernel)
set_option maxRecDepth 20000 in
theorem gX8_safe_X8_find : GoodIn wsX8_safe (wsV RX8 70 RX8 yX8_find wsX8_find) := goodIn_app (goodIn_of _ (by decide +kernel)) ggX8_safe_X8_find
set_option maxRecDepth 20000 in
theorem ggX8_safe_X6_whoHear : GoodIn wsX8_safe wsX6_whoHear := goodIn_r _ [26, 27, 12, 13, 14, 15, 16, 28, 29, 30, 31, 32, 33, 34, 35, 36, 37, 38, 39, 40, 41, 42, 43, 44, 45, 46, 47, 48, 49, 50, 51, 52, 53, 54, 55, 56, 84, 85, 86, 87, 88, 89, 90, 91, 92, 93, 94] (by decide +kernel) (by decide +kernel)
set_option maxRecDepth 20000 in
theorem gX8_safe_X6_whoHear : GoodIn wsX8_safe (wsV RX8 148 RX6 yX6_whoHear wsX6_whoHear) := goodIn_app (goodIn_of _ (by decide +kernel)) ggX8_safe_X6_whoHear
set_option maxRecDepth 20000 in
theorem ggX8_safe_X6_isSafe : GoodIn wsX8_safe wsX6_isSafe := goodIn_r _ [60, 61, 62, 63, 14, 64, 65, 66, 27, 12, 13, 15, 16, 67, 68, 69, 70, 71, 28, 29, 30, 31, 32, 33, 34, 35, 36, 37, 38, 39, 40, 41, 42, 43, 44, 45, 46, 47, 48, 49, 50, 51, 52, 53, 54, 55, 56, 84, 85, 86, 87, 88, 89, 90, 91, 92, 93, 94] (by decide +kernel) (by decide +kernel)
set_option maxRecDepth 20000 in
theorem gX8_safe_X6_isSafe : GoodIn wsX8_safe (wsV RX8 218 RX6 yX6_isSafe wsX6_isSafe) := goodIn_app (goodIn_of _ (by decide +kernel)) ggX8_safe_X6_isSafe
theorem dX8_safe_0 : decode cX8_safe 0 = .ok (.iload_n 1, 1) := by decide +kernel
theorem dX8_safe_1 : decode cX8_safe 1 = .ok (.ifCond .lt 11, 3) := by decide +kernel
theorem dX8_safe_4 : decode cX8_safe 4 = .ok (.aload_n 0, 1) := by decide +kernel
theorem dX8_safe_5 : decode cX8_safe 5 = .ok (.iload_n 2, 1) := by decide +kernel
theorem dX8_safe_6 : decode cX8_safe 6 = .ok (.invokevirtual 189, 3) := by decide +kernel
theorem dX8_safe_9 : decode cX8_safe 9 = .ok (.ifCond .ne 5, 3) := by decide +kernel
theorem dX8_safe_12 : decode cX8_safe 12 = .ok (.iconst (-1), 1) := by decide +kernel
theorem dX8_safe_13 : decode cX8_safe 13 = .ok (.ireturn, 1) := by decide +kernel
theorem dX8_safe_14 : decode cX8_safe 14 = .ok (.iload_n 1, 1) := by decide +kernel
theorem dX8_safe_15 : decode cX8_safe 15 = .ok (.aload_n 0, 1) := by decide +kernel
theorem dX8_safe_16 : decode cX8_safe 16 = .ok (.getfield 24, 3) := by decide +kernel
theorem dX8_safe_19 : decode cX8_safe 19 = .ok (.getfield 202, 3) := by decide +kernel
theorem dX8_safe_22 : decode cX8_safe 22 = .ok (.if_icmp .lt 9, 3) := by decide +kernel
theorem dX8_safe_25 : decode cX8_safe 25 = .ok (.aload_n 0, 1) := by decide +kernel
theorem dX8_safe_26 : decode cX8_safe 26 = .ok (.iconst 2, 1) := by decide +kernel
theorem dX8_safe_27 : decode cX8_safe 27 = .ok (.invokevirtual 70, 3) := by decide +kernel
theorem dX8_safe_30 : decode cX8_safe 30 = .ok (.ireturn, 1) := by decide +kernel
theorem dX8_safe_31 : decode cX8_safe 31 = .ok (.aload_n 0, 1) := by decide +kernel
theorem dX8_safe_32 : decode cX8_safe 32 = .ok (.aload_n 0, 1) := by decide +kernel
theorem dX8_safe_33 : decode cX8_safe 33 = .ok (.getfield 24, 3) := by decide +kernel
theorem dX8_safe_36 : decode cX8_safe 36 = .ok (.aload_n 0, 1) := by decide +kernel
theorem dX8_safe_37 : decode cX8_safe 37 = .ok (.getfield 24, 3) := by decide +kernel
theorem dX8_safe_40 : decode cX8_safe 40 = .ok (.getfield 212, 3) := by decide +kernel
theorem dX8_safe_43 : decode cX8_safe 43 = .ok (.iload_n 1, 1) := by decide +kernel
theorem dX8_safe_44 : decode cX8_safe 44 = .ok (.iaload, 1) := by decide +kernel
theorem dX8_safe_45 : decode cX8_safe 45 = .ok (.iload_n 2, 1) := by decide +kernel
theorem dX8_safe_46 : decode cX8_safe 46 = .ok (.invokevirtual 148, 3) := by decide +kernel
theorem dX8_safe_49 : decode cX8_safe 49 = .ok (.aload_n 0, 1) := by decide +kernel
theorem dX8_safe_50 : decode cX8_safe 50 = .ok (.getfield 24, 3) := by decide +kernel
theorem dX8_safe_53 : decode cX8_safe 53 = .ok (.getfield 215, 3) := by decide +kernel
theorem dX8_safe_56 : decode cX8_safe 56 = .ok (.iload_n 1, 1) := by decide +kernel
theorem dX8_safe_57 : decode cX8_safe 57 = .ok (.iaload, 1) := by decide +kernel
theorem dX8_safe_58 : decode cX8_safe 58 = .ok (.iand, 1) := by decide +kernel
theorem dX8_safe_59 : decode cX8_safe 59 = .ok (.putfield 92, 3) := by decide +kernel
theorem dX8_safe_62 : decode cX8_safe 62 = .ok (.aload_n 0, 1) := by decide +kernel
theorem dX8_safe_63 : decode cX8_safe 63 = .ok (.getfield 24, 3) := by decide +kernel
theorem dX8_safe_66 : decode cX8_safe 66 = .ok (.iload_n 1, 1) := by decide +kernel
theorem dX8_safe_67 : decode cX8_safe 67 = .ok (.iload_n 2, 1) := by decide +kernel
theorem dX8_safe_68 : decode cX8_safe 68 = .ok (.invokevirtual 218, 3) := by decide +kernel
theorem dX8_safe_71 : decode cX8_safe 71 = .ok (.ifCond .eq 7, 3) := by decide +kernel
theorem dX8_safe_74 : decode cX8_safe 74 = .ok (.iconst 1, 1) := by decide +kernel
theorem dX8_safe_75 : decode cX8_safe 75 = .ok (.goto 4, 3) := by decide +kernel
theorem dX8_safe_78 : decode cX8_safe 78 = .ok (.iconst 0, 1) := by decide +kernel
theorem dX8_safe_79 : decode cX8_safe 79 = .ok (.ireturn, 1) := by decide +kernel
set_option maxRecDepth 20000 in
theorem ggX8_cover_X8_find : GoodIn wsX8_cover wsX8_find := goodIn_r _ [7, 8, 9, 76, 77, 78, 79, 80, 81, 82, 83, 84, 85, 86, 87] (by decide +kernel) (by decide +kernel)
set_option maxRecDepth 20000 in
theorem gX8_cover_X8_find : GoodIn wsX8_cover (wsV RX8 70 RX8 yX8_find wsX8_find) := goodIn_app (goodIn_of _ (by decide +kernel)) ggX8_cover_X8_find
set_option maxRecDepth 20000 in
theorem ggX8_cover_X6_everyone : GoodIn wsX8_cover wsX6_everyone := goodIn_r _ [14, 15, 88, 89, 90, 91, 92, 93, 94, 95, 96, 97, 98] (by decide +kernel) (by decide +kernel)
set_option maxRecDepth 20000 in
theorem gX8_cover_X6_everyone : GoodIn wsX8_cover (wsV RX8 192 RX6 yX6_everyone wsX6_everyone) := goodIn_app (goodIn_of _ (by decide +kernel)) ggX8_cover_X6_everyone
set_option maxRecDepth 20000 in
theorem ggX8_cover_X8_isFewer : GoodIn wsX8_cover wsX8_isFewer := goodIn_r _ [18, 19, 20, 21, 22, 23, 24, 25] (by decide +kernel) (by decide +kernel)
set_option maxRecDepth 20000 in
theorem gX8_cover_X8_isFewer : GoodIn wsX8_cover (va_wsS RX8 196 yX8_isFewer wsX8_isFewer) := goodIn_app (goodIn_of _ (by decide +kernel)) ggX8_cover_X8_isFewer
set_option maxRecDepth 20000 in
theorem ggX8_cover_X6_isSafe : GoodIn wsX8_cover wsX6_isSafe := goodIn_r _ [29, 30, 31, 32, 13, 33, 34, 35, 36, 11, 12, 14, 15, 37, 38, 39, 40, 41, 42, 43, 44, 45, 46, 47, 48, 49, 50, 51, 52, 53, 54, 55, 56, 57, 58, 59, 60, 61, 62, 63, 64, 65, 66, 67, 68, 69, 70, 88, 89, 90, 91, 92, 93, 94, 95, 96, 97, 98] (by decide +kernel) (by decide +kernel)
set_option maxRecDepth 20000 in
theorem gX8_cover_X6_isSafe : GoodIn wsX8_cover (wsV RX8 218 RX6 yX6_isSafe wsX6_isSafe) := goodIn_app (goodIn_of _ (by decide +kernel)) ggX8_cover_X6_isSafe
set_option maxRecDepth 20000 in
theorem ggX8_cover_X8_tellSet : GoodIn wsX8_cover wsX8_tellSet := goodIn_r _ [74, 75, 19, 20, 21, 22, 23, 24, 25, 76, 77, 78, 79, 80, 81, 82, 83, 84, 85, 86, 87] (by decide +kernel) (by decide +kernel)
set_option maxRecDepth 20000 in
theorem gX8_cover_X8_tellSet : GoodIn wsX8_cover (wsV RX8 199 RX8 yX8_tellSet wsX8_tellSet) := goodIn_app (goodIn_of _ (by decide +kernel)) ggX8_cover_X8_tellSet
theorem dX8_cover_0 : decode cX8_cover 0 = .ok (.iload_n 1, 1) := by decide +kernel
theorem dX8_cover_1 : decode cX8_cover 1 = .ok (.ifCond .ge 5, 3) := by decide +kernel
theorem dX8_cover_4 : decode cX8_cover 4 = .ok (.iconst (-1), 1) := by decide +kernel
theorem dX8_cover_5 : decode cX8_cover 5 = .ok (.ireturn, 1) := by decide +kernel
theorem dX8_cover_6 : decode cX8_cover 6 = .ok (.iload_n 1, 1) := by decide +kernel
theorem dX8_cover_7 : decode cX8_cover 7 = .ok (.aload_n 0, 1) := by decide +kernel
theorem dX8_cover_8 : decode cX8_cover 8 = .ok (.getfield 24, 3) := by decide +kernel
theorem dX8_cover_11 : decode cX8_cover 11 = .ok (.getfield 202, 3) := by decide +kernel
theorem dX8_cover_14 : decode cX8_cover 14 = .ok (.if_icmp .lt 9, 3) := by decide +kernel
theorem dX8_cover_17 : decode cX8_cover 17 = .ok (.aload_n 0, 1) := by decide +kernel
theorem dX8_cover_18 : decode cX8_cover 18 = .ok (.iconst 2, 1) := by decide +kernel
theorem dX8_cover_19 : decode cX8_cover 19 = .ok (.invokevirtual 70, 3) := by decide +kernel
theorem dX8_cover_22 : decode cX8_cover 22 = .ok (.ireturn, 1) := by decide +kernel
theorem dX8_cover_23 : decode cX8_cover 23 = .ok (.bipush (-9), 2) := by decide +kernel
theorem dX8_cover_25 : decode cX8_cover 25 = .ok (.istore_n 2, 1) := by decide +kernel
theorem dX8_cover_26 : decode cX8_cover 26 = .ok (.iconst 0, 1) := by decide +kernel
theorem dX8_cover_27 : decode cX8_cover 27 = .ok (.istore_n 3, 1) := by decide +kernel
theorem dX8_cover_28 : decode cX8_cover 28 = .ok (.iload_n 3, 1) := by decide +kernel
theorem dX8_cover_29 : decode cX8_cover 29 = .ok (.aload_n 0, 1) := by decide +kernel
theorem dX8_cover_30 : decode cX8_cover 30 = .ok (.getfield 24, 3) := by decide +kernel
theorem dX8_cover_33 : decode cX8_cover 33 = .ok (.invokevirtual 192, 3) := by decide +kernel
theorem dX8_cover_36 : decode cX8_cover 36 = .ok (.if_icmp .gt 31, 3) := by decide +kernel
theorem dX8_cover_39 : decode cX8_cover 39 = .ok (.iload_n 3, 1) := by decide +kernel
theorem dX8_cover_40 : decode cX8_cover 40 = .ok (.iload_n 2, 1) := by decide +kernel
theorem dX8_cover_41 : decode cX8_cover 41 = .ok (.invokestatic 196, 3) := by decide +kernel
theorem dX8_cover_44 : decode cX8_cover 44 = .ok (.ifCond .eq 17, 3) := by decide +kernel
theorem dX8_cover_47 : decode cX8_cover 47 = .ok (.aload_n 0, 1) := by decide +kernel
theorem dX8_cover_48 : decode cX8_cover 48 = .ok (.getfield 24, 3) := by decide +kernel
theorem dX8_cover_51 : decode cX8_cover 51 = .ok (.iload_n 1, 1) := by decide +kernel
theorem dX8_cover_52 : decode cX8_cover 52 = .ok (.iload_n 3, 1) := by decide +kernel
theorem dX8_cover_53 : decode cX8_cover 53 = .ok (.invokevirtual 218, 3) := by decide +kernel
theorem dX8_cover_56 : decode cX8_cover 56 = .ok (.ifCond .eq 5, 3) := by decide +kernel
theorem dX8_cover_59 : decode cX8_cover 59 = .ok (.iload_n 3, 1) := by decide +kernel
theorem dX8_cover_60 : decode cX8_cover 60 = .ok (.istore_n 2, 1) := by decide +kernel
theorem dX8_cover_61 : decode cX8_cover 61 = .ok (.iinc 3 1, 3) := by decide +kernel
theorem dX8_cover_64 : decode cX8_cover 64 = .ok (.goto (-36), 3) := by decide +kernel
theorem dX8_cover_67 : decode cX8_cover 67 = .ok (.aload_n 0, 1) := by decide +kernel
theorem dX8_cover_68 : decode cX8_cover 68 = .ok (.iload_n 2, 1) := by decide +kernel
theorem dX8_cover_69 : decode cX8_cover 69 = .ok (.invokevirtual 199, 3) := by decide +kernel
theorem dX8_cover_72 : decode cX8_cover 72 = .ok (.ireturn, 1) := by decide +kernel
set_option maxRecDepth 20000 in
theorem ggX8_beside_X6_everyTalk : GoodIn wsX8_beside wsX6_everyTalk := goodIn_r _ [6, 7, 69, 70, 71, 72, 73, 74, 75, 76, 77, 78, 79] (by decide +kernel) (by decide +kernel)
set_option maxRecDepth 20000 in
theorem gX8_beside_X6_everyTalk : GoodIn wsX8_beside (wsV RX8 221 RX6 yX6_everyTalk wsX6_everyTalk) := goodIn_app (goodIn_of _ (by decide +kernel)) ggX8_beside_X6_everyTalk
set_option maxRecDepth 20000 in
theorem ggX8_beside_X6_goTogether : GoodIn wsX8_beside wsX6_goTogether := goodIn_r _ [11, 7, 12, 13, 14, 15, 5, 16, 17, 18, 19, 20, 21, 22, 23, 24, 25, 26, 27, 28, 29, 30, 31, 32, 33, 34, 35, 36, 37, 38, 39, 40, 41, 42, 43, 44, 45, 46, 47, 48, 49, 50, 51, 52, 53, 54, 55, 56, 69, 70, 71, 72, 73, 74, 75, 76, 77, 78, 79] (by decide +kernel) (by decide +kernel)
set_option maxRecDepth 20000 in
theorem gX8_beside_X6_goTogether : GoodIn wsX8_beside (wsV RX8 224 RX6 yX6_goTogether wsX6_goTogether) := goodIn_app (goodIn_of _ (by decide +kernel)) ggX8_beside_X6_goTogether
theorem dX8_beside_0 : decode cX8_beside 0 = .ok (.iload_n 1, 1) := by decide +kernel
theorem dX8_beside_1 : decode cX8_beside 1 = .ok (.ifCond .lt 14, 3) := by decide +kernel
theorem dX8_beside_4 : decode cX8_beside 4 = .ok (.iload_n 1, 1) := by decide +kernel
theorem dX8_beside_5 : decode cX8_beside 5 = .ok (.aload_n 0, 1) := by decide +kernel
theorem dX8_beside_6 : decode cX8_beside 6 = .ok (.getfield 24, 3) := by decide +kernel
theorem dX8_beside_9 : decode cX8_beside 9 = .ok (.invokevirtual 221, 3) := by decide +kernel
theorem dX8_beside_12 : decode cX8_beside 12 = .ok (.if_icmp .le 5, 3) := by decide +kernel
theorem dX8_beside_15 : decode cX8_beside 15 = .ok (.iconst (-1), 1) := by decide +kernel
theorem dX8_beside_16 : decode cX8_beside 16 = .ok (.ireturn, 1) := by decide +kernel
theorem dX8_beside_17 : decode cX8_beside 17 = .ok (.aload_n 0, 1) := by decide +kernel
theorem dX8_beside_18 : decode cX8_beside 18 = .ok (.getfield 24, 3) := by decide +kernel
theorem dX8_beside_21 : decode cX8_beside 21 = .ok (.iload_n 1, 1) := by decide +kernel
theorem dX8_beside_22 : decode cX8_beside 22 = .ok (.invokevirtual 224, 3) := by decide +kernel
theorem dX8_beside_25 : decode cX8_beside 25 = .ok (.ifCond .eq 7, 3) := by decide +kernel
theorem dX8_beside_28 : decode cX8_beside 28 = .ok (.iconst 1, 1) := by decide +kernel
theorem dX8_beside_29 : decode cX8_beside 29 = .ok (.goto 4, 3) := by decide +kernel
theorem dX8_beside_32 : decode cX8_beside 32 = .ok (.iconst 0, 1) := by decide +kernel
theorem dX8_beside_33 : decode cX8_beside 33 = .ok (.ireturn, 1) := by decide +kernel
set_option maxRecDepth 20000 in
theorem ggX8_turns_X3_draw : GoodIn wsX8_turns wsX3_draw := goodIn_r _ [8, 9, 10, 11, 12, 13, 14, 15, 16, 17, 18, 19, 20, 21, 22, 23, 24, 25, 26, 27, 28, 29, 30, 31, 32, 33, 34, 35, 36, 37, 38, 39, 40, 41, 42, 43, 44, 45, 46, 47, 48, 49, 50, 51, 52, 53, 54, 55, 56, 57, 58, 59, 60, 61, 62, 63, 64, 65, 66, 67, 68, 7, 69, 70, 71, 72, 93, 94, 95, 96, 97, 98, 99, 100, 101, 102, 103, 104, 105] (by decide +kernel) (by decide +kernel)
set_option maxRecDepth 20000 in
theorem gX8_turns_X3_draw : GoodIn wsX8_turns (wsV RX8 227 RX3 yX3_draw wsX3_draw) := goodIn_app (goodIn_of _ (by decide +kernel)) ggX8_turns_X3_draw
set_option maxRecDepth 20000 in
theorem ggX8_turns_X3_hours : GoodIn wsX8_turns wsX3_hours := goodIn_r _ [76, 10, 11, 12, 13, 14, 15, 16, 93, 94, 95, 96, 97, 98, 99, 100, 101, 102, 103, 104, 105] (by decide +kernel) (by decide +kernel)
set_option maxRecDepth 20000 in
theorem gX8_turns_X3_hours : GoodIn wsX8_turns (wsV RX8 230 RX3 yX3_hours wsX3_hours) := goodIn_app (goodIn_of _ (by decide +kernel)) ggX8_turns_X3_hours
set_option maxRecDepth 20000 in
theorem ggX8_turns_X3_firstHour : GoodIn wsX8_turns wsX3_firstHour := goodIn_r _ [80, 9, 10, 11, 12, 13, 14, 15, 16, 93, 94, 95, 96, 97, 98, 99, 100, 101, 102, 103, 104, 105] (by decide +kernel) (by decide +kernel)
set_option maxRecDepth 20000 in
theorem gX8_turns_X3_firstHour : GoodIn wsX8_turns (wsV RX8 234 RX3 yX3_firstHour wsX3_firstHour) := goodIn_app (goodIn_of _ (by decide +kernel)) ggX8_turns_X3_firstHour
theorem dX8_turns_0 : decode cX8_turns 0 = .ok (.aload_n 0, 1) := by decide +kernel
theorem dX8_turns_1 : decode cX8_turns 1 = .ok (.getfield 42, 3) := by decide +kernel
theorem dX8_turns_4 : decode cX8_turns 4 = .ok (.aload_n 0, 1) := by decide +kernel
theorem dX8_turns_5 : decode cX8_turns 5 = .ok (.getfield 24, 3) := by decide +kernel
theorem dX8_turns_8 : decode cX8_turns 8 = .ok (.invokevirtual 227, 3) := by decide +kernel
theorem dX8_turns_11 : decode cX8_turns 11 = .ok (.aload_n 0, 1) := by decide +kernel
theorem dX8_turns_12 : decode cX8_turns 12 = .ok (.getfield 42, 3) := by decide +kernel
theorem dX8_turns_15 : decode cX8_turns 15 = .ok (.aload_n 0, 1) := by decide +kernel
theorem dX8_turns_16 : decode cX8_turns 16 = .ok (.getfield 24, 3) := by decide +kernel
theorem dX8_turns_19 : decode cX8_turns 19 = .ok (.invokevirtual 230, 3) := by decide +kernel
theorem dX8_turns_22 : decode cX8_turns 22 = .ok (.istore_n 1, 1) := by decide +kernel
theorem dX8_turns_23 : decode cX8_turns 23 = .ok (.iload_n 1, 1) := by decide +kernel
theorem dX8_turns_24 : decode cX8_turns 24 = .ok (.bipush (-9), 2) := by decide +kernel
theorem dX8_turns_26 : decode cX8_turns 26 = .ok (.if_icmp .ne 6, 3) := by decide +kernel
theorem dX8_turns_29 : decode cX8_turns 29 = .ok (.bipush (-9), 2) := by decide +kernel
theorem dX8_turns_31 : decode cX8_turns 31 = .ok (.ireturn, 1) := by decide +kernel
theorem dX8_turns_32 : decode cX8_turns 32 = .ok (.aload_n 0, 1) := by decide +kernel
theorem dX8_turns_33 : decode cX8_turns 33 = .ok (.aload_n 0, 1) := by decide +kernel
theorem dX8_turns_34 : decode cX8_turns 34 = .ok (.getfield 42, 3) := by decide +kernel
theorem dX8_turns_37 : decode cX8_turns 37 = .ok (.aload_n 0, 1) := by decide +kernel
theorem dX8_turns_38 : decode cX8_turns 38 = .ok (.getfield 24, 3) := by decide +kernel
theorem dX8_turns_41 : decode cX8_turns 41 = .ok (.invokevirtual 234, 3) := by decide +kernel
theorem dX8_turns_44 : decode cX8_turns 44 = .ok (.putfield 92, 3) := by decide +kernel
theorem dX8_turns_47 : decode cX8_turns 47 = .ok (.iload_n 1, 1) := by decide +kernel
theorem dX8_turns_48 : decode cX8_turns 48 = .ok (.ireturn, 1) := by decide +kernel
set_option maxRecDepth 20000 in
theorem ggX8_most_X3_draw : GoodIn wsX8_most wsX3_draw := goodIn_r _ [7, 8, 9, 10, 11, 12, 13, 14, 15, 16, 17, 18, 19, 20, 21, 22, 23, 24, 25, 26, 27, 28, 29, 30, 31, 32, 33, 34, 35, 36, 37, 38, 39, 40, 41, 42, 43, 44, 45, 46, 47, 48, 49, 50, 51, 52, 53, 54, 55, 56, 57, 58, 59, 60, 61, 62, 63, 64, 65, 66, 67, 6, 68, 69, 70, 71, 102, 103, 104, 105, 106, 107, 108, 109, 110, 111, 112, 113, 114] (by decide +kernel) (by decide +kernel)
set_option maxRecDepth 20000 in
theorem gX8_most_X3_draw : GoodIn wsX8_most (wsV RX8 227 RX3 yX3_draw wsX3_draw) := goodIn_app (goodIn_of _ (by decide +kernel)) ggX8_most_X3_draw
set_option maxRecDepth 20000 in
theorem ggX8_most_X3_largest : GoodIn wsX8_most wsX3_largest := goodIn_r _ [75, 8, 10, 11, 12, 13, 14, 15, 76, 77, 78, 79, 80, 81, 82, 102, 103, 104, 105, 106, 107, 108, 109, 110, 111, 112, 113, 114] (by decide +kernel) (by decide +kernel)
set_option maxRecDepth 20000 in
theorem gX8_most_X3_largest : GoodIn wsX8_most (wsV RX8 237 RX3 yX3_largest wsX3_largest) := goodIn_app (goodIn_of _ (by decide +kernel)) ggX8_most_X3_largest
set_option maxRecDepth 20000 in
theorem ggX8_most_X8_tellSet : GoodIn wsX8_most wsX8_tellSet := goodIn_r _ [87, 88, 89, 77, 78, 79, 80, 81, 82, 90, 91, 92, 93, 94, 95, 96, 97, 98, 99, 100, 101] (by decide +kernel) (by decide +kernel)
set_option maxRecDepth 20000 in
theorem gX8_most_X8_tellSet : GoodIn wsX8_most (wsV RX8 199 RX8 yX8_tellSet wsX8_tellSet) := goodIn_app (goodIn_of _ (by decide +kernel)) ggX8_most_X8_tellSet
theorem dX8_most_0 : decode cX8_most 0 = .ok (.aload_n 0, 1) := by decide +kernel
theorem dX8_most_1 : decode cX8_most 1 = .ok (.getfield 42, 3) := by decide +kernel
theorem dX8_most_4 : decode cX8_most 4 = .ok (.aload_n 0, 1) := by decide +kernel
theorem dX8_most_5 : decode cX8_most 5 = .ok (.getfield 24, 3) := by decide +kernel
theorem dX8_most_8 : decode cX8_most 8 = .ok (.invokevirtual 227, 3) := by decide +kernel
theorem dX8_most_11 : decode cX8_most 11 = .ok (.aload_n 0, 1) := by decide +kernel
theorem dX8_most_12 : decode cX8_most 12 = .ok (.aload_n 0, 1) := by decide +kernel
theorem dX8_most_13 : decode cX8_most 13 = .ok (.getfield 42, 3) := by decide +kernel
theorem dX8_most_16 : decode cX8_most 16 = .ok (.aload_n 0, 1) := by decide +kernel
theorem dX8_most_17 : decode cX8_most 17 = .ok (.getfield 24, 3) := by decide +kernel
theorem dX8_most_20 : decode cX8_most 20 = .ok (.invokevirtual 237, 3) := by decide +kernel
theorem dX8_most_23 : decode cX8_most 23 = .ok (.invokevirtual 199, 3) := by decide +kernel
theorem dX8_most_26 : decode cX8_most 26 = .ok (.ireturn, 1) := by decide +kernel
set_option maxRecDepth 20000 in
theorem ggX8_safes_X6_safeTalks : GoodIn wsX8_safes wsX6_safeTalks := goodIn_r _ [6, 7, 8, 9, 10, 5, 11, 12, 13, 14, 15, 16, 17, 18, 19, 20, 21, 22, 23, 24, 25, 26, 27, 28, 29, 30, 31, 32, 33, 34, 35, 36, 37, 38, 39, 40, 41, 42, 43, 44, 45, 46, 47, 48, 49, 50, 51, 52, 53, 54, 55, 56, 82, 83, 84, 85, 86, 87, 88, 89, 90, 91, 92] (by decide +kernel) (by decide +kernel)
set_option maxRecDepth 20000 in
theorem gX8_safes_X6_safeTalks : GoodIn wsX8_safes (wsV RX8 240 RX6 yX6_safeTalks wsX6_safeTalks) := goodIn_app (goodIn_of _ (by decide +kernel)) ggX8_safes_X6_safeTalks
set_option maxRecDepth 20000 in
theorem ggX8_safes_X8_tellSet : GoodIn wsX8_safes wsX8_tellSet := goodIn_r _ [61, 62, 63, 64, 65, 66, 67, 68, 69, 70, 71, 72, 73, 74, 75, 76, 77, 78, 79, 80, 81] (by decide +kernel) (by decide +kernel)
set_option maxRecDepth 20000 in
theorem gX8_safes_X8_tellSet : GoodIn wsX8_safes (wsV RX8 199 RX8 yX8_tellSet wsX8_tellSet) := goodIn_app (goodIn_of _ (by decide +kernel)) ggX8_safes_X8_tellSet
theorem dX8_safes_0 : decode cX8_safes 0 = .ok (.aload_n 0, 1) := by decide +kernel
theorem dX8_safes_1 : decode cX8_safes 1 = .ok (.aload_n 0, 1) := by decide +kernel
theorem dX8_safes_2 : decode cX8_safes 2 = .ok (.getfield 24, 3) := by decide +kernel
theorem dX8_safes_5 : decode cX8_safes 5 = .ok (.invokevirtual 240, 3) := by decide +kernel
theorem dX8_safes_8 : decode cX8_safes 8 = .ok (.invokevirtual 199, 3) := by decide +kernel
theorem dX8_safes_11 : decode cX8_safes 11 = .ok (.ireturn, 1) := by decide +kernel
set_option maxRecDepth 20000 in
theorem ggX8_rooms_X8_isRow : GoodIn wsX8_rooms wsX8_isRow := goodIn_r _ [11] (by decide +kernel) (by decide +kernel)
set_option maxRecDepth 20000 in
theorem gX8_rooms_X8_isRow : GoodIn wsX8_rooms (va_wsS RX8 66 yX8_isRow wsX8_isRow) := goodIn_app (goodIn_of _ (by decide +kernel)) ggX8_rooms_X8_isRow
set_option maxRecDepth 20000 in
theorem ggX8_rooms_X6_become : GoodIn wsX8_rooms wsX6_become := goodIn_r _ [16, 17, 18, 19, 20, 21, 22, 23, 24, 25, 26, 27, 28, 29, 30, 31, 32, 33, 34, 35, 36, 37, 38, 39, 40, 41, 42, 43, 131, 132, 133, 134, 135, 136, 137, 138, 139, 140, 141, 145, 146, 147, 148, 149, 150] (by decide +kernel) (by decide +kernel)
set_option maxRecDepth 20000 in
theorem gX8_rooms_X6_become : GoodIn wsX8_rooms (wsV RX8 127 RX6 yX6_become wsX6_become) := goodIn_app (goodIn_of _ (by decide +kernel)) ggX8_rooms_X6_become
set_option maxRecDepth 20000 in
theorem ggX8_rooms_X0_search : GoodIn wsX8_rooms wsX0_search := goodIn_r _ [48, 49, 50, 51, 52, 15, 53, 18, 54, 55, 56, 57, 19, 58, 59, 47, 60, 61, 62, 63, 64, 22, 23, 24, 65, 66, 67, 68, 69, 70, 71, 72, 73, 74, 75, 76, 28, 77, 78, 79, 80, 29, 30, 81, 82, 83, 84, 27, 85, 86, 87, 88, 89, 90, 26, 91, 92, 93, 94, 25, 95, 96, 97, 98, 99, 100, 101, 102, 103, 104, 105, 106, 142, 143, 144, 131, 132, 133, 134, 135, 136, 137, 138, 139, 140, 141] (by decide +kernel) (by decide +kernel)
set_option maxRecDepth 20000 in
theorem gX8_rooms_X0_search : GoodIn wsX8_rooms (wsV RX8 243 RX0 yX0_search wsX0_search) := goodIn_app (goodIn_of _ (by decide +kernel)) ggX8_rooms_X0_search
set_option maxRecDepth 20000 in
theorem ggX8_rooms_X4_fill : GoodIn wsX8_rooms wsX4_fill := goodIn_r _ [111, 112, 113, 22, 23, 24, 114, 115, 116, 110, 117, 118, 151, 152] (by decide +kernel) (by decide +kernel)
set_option maxRecDepth 20000 in
theorem gX8_rooms_X4_fill : GoodIn wsX8_rooms (wsV RX8 250 RX4 yX4_fill wsX4_fill) := goodIn_app (goodIn_of _ (by decide +kernel)) ggX8_rooms_X4_fill
theorem dX8_rooms_0 : decode cX8_rooms 0 = .ok (.iload_n 1, 1) := by decide +kernel
theorem dX8_rooms_1 : decode cX8_rooms 1 = .ok (.invokestatic 66, 3) := by decide +kernel
theorem dX8_rooms_4 : decode cX8_rooms 4 = .ok (.ifCond .ne 5, 3) := by decide +kernel
theorem dX8_rooms_7 : decode cX8_rooms 7 = .ok (.iconst (-1), 1) := by decide +kernel
theorem dX8_rooms_8 : decode cX8_rooms 8 = .ok (.ireturn, 1) := by decide +kernel
theorem dX8_rooms_9 : decode cX8_rooms 9 = .ok (.aload_n 0, 1) := by decide +kernel
theorem dX8_rooms_10 : decode cX8_rooms 10 = .ok (.getfield 24, 3) := by decide +kernel
theorem dX8_rooms_13 : decode cX8_rooms 13 = .ok (.getfield 131, 3) := by decide +kernel
theorem dX8_rooms_16 : decode cX8_rooms 16 = .ok (.ifCond .ne 6, 3) := by decide +kernel
theorem dX8_rooms_19 : decode cX8_rooms 19 = .ok (.bipush (-4), 2) := by decide +kernel
theorem dX8_rooms_21 : decode cX8_rooms 21 = .ok (.ireturn, 1) := by decide +kernel
theorem dX8_rooms_22 : decode cX8_rooms 22 = .ok (.aload_n 0, 1) := by decide +kernel
theorem dX8_rooms_23 : decode cX8_rooms 23 = .ok (.getfield 28, 3) := by decide +kernel
theorem dX8_rooms_26 : decode cX8_rooms 26 = .ok (.aload_n 0, 1) := by decide +kernel
theorem dX8_rooms_27 : decode cX8_rooms 27 = .ok (.getfield 24, 3) := by decide +kernel
theorem dX8_rooms_30 : decode cX8_rooms 30 = .ok (.invokevirtual 127, 3) := by decide +kernel
theorem dX8_rooms_33 : decode cX8_rooms 33 = .ok (.aload_n 0, 1) := by decide +kernel
theorem dX8_rooms_34 : decode cX8_rooms 34 = .ok (.getfield 49, 3) := by decide +kernel
theorem dX8_rooms_37 : decode cX8_rooms 37 = .ok (.aload_n 0, 1) := by decide +kernel
theorem dX8_rooms_38 : decode cX8_rooms 38 = .ok (.getfield 24, 3) := by decide +kernel
theorem dX8_rooms_41 : decode cX8_rooms 41 = .ok (.aload_n 0, 1) := by decide +kernel
theorem dX8_rooms_42 : decode cX8_rooms 42 = .ok (.getfield 28, 3) := by decide +kernel
theorem dX8_rooms_45 : decode cX8_rooms 45 = .ok (.invokevirtual 243, 3) := by decide +kernel
theorem dX8_rooms_48 : decode cX8_rooms 48 = .ok (.aload_n 0, 1) := by decide +kernel
theorem dX8_rooms_49 : decode cX8_rooms 49 = .ok (.getfield 11, 3) := by decide +kernel
theorem dX8_rooms_52 : decode cX8_rooms 52 = .ok (.iload_n 1, 1) := by decide +kernel
theorem dX8_rooms_53 : decode cX8_rooms 53 = .ok (.aaload, 1) := by decide +kernel
theorem dX8_rooms_54 : decode cX8_rooms 54 = .ok (.aload_n 0, 1) := by decide +kernel
theorem dX8_rooms_55 : decode cX8_rooms 55 = .ok (.getfield 49, 3) := by decide +kernel
theorem dX8_rooms_58 : decode cX8_rooms 58 = .ok (.getfield 247, 3) := by decide +kernel
theorem dX8_rooms_61 : decode cX8_rooms 61 = .ok (.aload_n 0, 1) := by decide +kernel
theorem dX8_rooms_62 : decode cX8_rooms 62 = .ok (.getfield 24, 3) := by decide +kernel
theorem dX8_rooms_65 : decode cX8_rooms 65 = .ok (.getfield 131, 3) := by decide +kernel
theorem dX8_rooms_68 : decode cX8_rooms 68 = .ok (.invokevirtual 250, 3) := by decide +kernel
theorem dX8_rooms_71 : decode cX8_rooms 71 = .ok (.aload_n 0, 1) := by decide +kernel
theorem dX8_rooms_72 : decode cX8_rooms 72 = .ok (.getfield 49, 3) := by decide +kernel
theorem dX8_rooms_75 : decode cX8_rooms 75 = .ok (.getfield 254, 3) := by decide +kernel
theorem dX8_rooms_78 : decode cX8_rooms 78 = .ok (.ireturn, 1) := by decide +kernel
set_option maxRecDepth 20000 in
theorem ggX8_swap_X6_become : GoodIn wsX8_swap wsX6_become := goodIn_r _ [10, 11, 12, 13, 14, 15, 16, 17, 18, 19, 20, 21, 22, 23, 24, 25, 26, 27, 28, 29, 30, 31, 32, 33, 34, 35, 36, 37, 103, 104, 105, 106, 107, 108, 109, 110, 111, 112, 113, 114, 115, 116, 117, 118, 119] (by decide +kernel) (by decide +kernel)
set_option maxRecDepth 20000 in
theorem gX8_swap_X6_become : GoodIn wsX8_swap (wsV RX8 127 RX6 yX6_become wsX6_become) := goodIn_app (goodIn_of _ (by decide +kernel)) ggX8_swap_X6_become
set_option maxRecDepth 20000 in
theorem ggX8_swap_X6_safeTalks : GoodIn wsX8_swap wsX6_safeTalks := goodIn_r _ [41, 13, 42, 43, 44, 9, 45, 46, 47, 48, 49, 22, 23, 50, 51, 52, 53, 12, 54, 55, 56, 57, 24, 58, 59, 60, 61, 21, 62, 63, 64, 65, 66, 67, 20, 68, 69, 70, 71, 19, 72, 73, 74, 75, 76, 77, 78, 79, 80, 81, 82, 83, 103, 104, 105, 106, 107, 108, 109, 110, 111, 112, 113] (by decide +kernel) (by decide +kernel)
set_option maxRecDepth 20000 in
theorem gX8_swap_X6_safeTalks : GoodIn wsX8_swap (wsV RX8 240 RX6 yX6_safeTalks wsX6_safeTalks) := goodIn_app (goodIn_of _ (by decide +kernel)) ggX8_swap_X6_safeTalks
set_option maxRecDepth 20000 in
theorem ggX8_swap_J6_bitCount_0f7a4 : GoodIn wsX8_swap wsJ6_bitCount_0f7a4 := goodIn_r _ [87, 88, 89, 90] (by decide +kernel) (by decide +kernel)
set_option maxRecDepth 20000 in
theorem gX8_swap_J6_bitCount_0f7a4 : GoodIn wsX8_swap (va_wsS RX8 151 yJ6_bitCount_0f7a4 wsJ6_bitCount_0f7a4) := goodIn_app (goodIn_of _ (by decide +kernel)) ggX8_swap_J6_bitCount_0f7a4
theorem dX8_swap_0 : decode cX8_swap 0 = .ok (.aload_n 0, 1) := by decide +kernel
theorem dX8_swap_1 : decode cX8_swap 1 = .ok (.getfield 28, 3) := by decide +kernel
theorem dX8_swap_4 : decode cX8_swap 4 = .ok (.aload_n 0, 1) := by decide +kernel
theorem dX8_swap_5 : decode cX8_swap 5 = .ok (.getfield 24, 3) := by decide +kernel
theorem dX8_swap_8 : decode cX8_swap 8 = .ok (.invokevirtual 127, 3) := by decide +kernel
theorem dX8_swap_11 : decode cX8_swap 11 = .ok (.aload_n 0, 1) := by decide +kernel
theorem dX8_swap_12 : decode cX8_swap 12 = .ok (.getfield 24, 3) := by decide +kernel
theorem dX8_swap_15 : decode cX8_swap 15 = .ok (.invokevirtual 240, 3) := by decide +kernel
theorem dX8_swap_18 : decode cX8_swap 18 = .ok (.invokestatic 151, 3) := by decide +kernel
theorem dX8_swap_21 : decode cX8_swap 21 = .ok (.istore_n 1, 1) := by decide +kernel
theorem dX8_swap_22 : decode cX8_swap 22 = .ok (.bipush (-9), 2) := by decide +kernel
theorem dX8_swap_24 : decode cX8_swap 24 = .ok (.istore_n 2, 1) := by decide +kernel
theorem dX8_swap_25 : decode cX8_swap 25 = .ok (.iconst 0, 1) := by decide +kernel
theorem dX8_swap_26 : decode cX8_swap 26 = .ok (.istore_n 3, 1) := by decide +kernel
theorem dX8_swap_27 : decode cX8_swap 27 = .ok (.iload_n 3, 1) := by decide +kernel
theorem dX8_swap_28 : decode cX8_swap 28 = .ok (.aload_n 0, 1) := by decide +kernel
theorem dX8_swap_29 : decode cX8_swap 29 = .ok (.getfield 24, 3) := by decide +kernel
theorem dX8_swap_32 : decode cX8_swap 32 = .ok (.getfield 131, 3) := by decide +kernel
theorem dX8_swap_35 : decode cX8_swap 35 = .ok (.if_icmp .ge 137, 3) := by decide +kernel
theorem dX8_swap_38 : decode cX8_swap 38 = .ok (.iload_n 3, 1) := by decide +kernel
theorem dX8_swap_39 : decode cX8_swap 39 = .ok (.iconst 1, 1) := by decide +kernel
theorem dX8_swap_40 : decode cX8_swap 40 = .ok (.iadd, 1) := by decide +kernel
theorem dX8_swap_41 : decode cX8_swap 41 = .ok (.istore 4, 2) := by decide +kernel
theorem dX8_swap_43 : decode cX8_swap 43 = .ok (.iload 4, 2) := by decide +kernel
theorem dX8_swap_45 : decode cX8_swap 45 = .ok (.aload_n 0, 1) := by decide +kernel
theorem dX8_swap_46 : decode cX8_swap 46 = .ok (.getfield 24, 3) := by decide +kernel
theorem dX8_swap_49 : decode cX8_swap 49 = .ok (.getfield 131, 3) := by decide +kernel
theorem dX8_swap_52 : decode cX8_swap 52 = .ok (.if_icmp .ge 114, 3) := by decide +kernel
theorem dX8_swap_55 : decode cX8_swap 55 = .ok (.aload_n 0, 1) := by decide +kernel
theorem dX8_swap_56 : decode cX8_swap 56 = .ok (.getfield 28, 3) := by decide +kernel
theorem dX8_swap_59 : decode cX8_swap 59 = .ok (.getfield 177, 3) := by decide +kernel
theorem dX8_swap_62 : decode cX8_swap 62 = .ok (.iload_n 3, 1) := by decide +kernel
theorem dX8_swap_63 : decode cX8_swap 63 = .ok (.aload_n 0, 1) := by decide +kernel
theorem dX8_swap_64 : decode cX8_swap 64 = .ok (.getfield 24, 3) := by decide +kernel
theorem dX8_swap_67 : decode cX8_swap 67 = .ok (.getfield 177, 3) := by decide +kernel
theorem dX8_swap_70 : decode cX8_swap 70 = .ok (.iload 4, 2) := by decide +kernel
theorem dX8_swap_72 : decode cX8_swap 72 = .ok (.iaload, 1) := by decide +kernel
theorem dX8_swap_73 : decode cX8_swap 73 = .ok (.iastore, 1) := by decide +kernel
theorem dX8_swap_74 : decode cX8_swap 74 = .ok (.aload_n 0, 1) := by decide +kernel
theorem dX8_swap_75 : decode cX8_swap 75 = .ok (.getfield 28, 3) := by decide +kernel
theorem dX8_swap_78 : decode cX8_swap 78 = .ok (.getfield 177, 3) := by decide +kernel
theorem dX8_swap_81 : decode cX8_swap 81 = .ok (.iload 4, 2) := by decide +kernel
theorem dX8_swap_83 : decode cX8_swap 83 = .ok (.aload_n 0, 1) := by decide +kernel
theorem dX8_swap_84 : decode cX8_swap 84 = .ok (.getfield 24, 3) := by decide +kernel
theorem dX8_swap_87 : decode cX8_swap 87 = .ok (.getfield 177, 3) := by decide +kernel
theorem dX8_swap_90 : decode cX8_swap 90 = .ok (.iload_n 3, 1) := by decide +kernel
theorem dX8_swap_91 : decode cX8_swap 91 = .ok (.iaload, 1) := by decide +kernel
theorem dX8_swap_92 : decode cX8_swap 92 = .ok (.iastore, 1) := by decide +kernel
theorem dX8_swap_93 : decode cX8_swap 93 = .ok (.aload_n 0, 1) := by decide +kernel
theorem dX8_swap_94 : decode cX8_swap 94 = .ok (.getfield 28, 3) := by decide +kernel
theorem dX8_swap_97 : decode cX8_swap 97 = .ok (.invokevirtual 240, 3) := by decide +kernel
theorem dX8_swap_100 : decode cX8_swap 100 = .ok (.invokestatic 151, 3) := by decide +kernel
theorem dX8_swap_103 : decode cX8_swap 103 = .ok (.istore 5, 2) := by decide +kernel
theorem dX8_swap_105 : decode cX8_swap 105 = .ok (.iload 5, 2) := by decide +kernel
theorem dX8_swap_107 : decode cX8_swap 107 = .ok (.iload_n 1, 1) := by decide +kernel
theorem dX8_swap_108 : decode cX8_swap 108 = .ok (.if_icmp .le 14, 3) := by decide +kernel
theorem dX8_swap_111 : decode cX8_swap 111 = .ok (.iload 5, 2) := by decide +kernel
theorem dX8_swap_113 : decode cX8_swap 113 = .ok (.istore_n 1, 1) := by decide +kernel
theorem dX8_swap_114 : decode cX8_swap 114 = .ok (.bipush 10, 2) := by decide +kernel
theorem dX8_swap_116 : decode cX8_swap 116 = .ok (.iload_n 3, 1) := by decide +kernel
theorem dX8_swap_117 : decode cX8_swap 117 = .ok (.imul, 1) := by decide +kernel
theorem dX8_swap_118 : decode cX8_swap 118 = .ok (.iload 4, 2) := by decide +kernel
theorem dX8_swap_120 : decode cX8_swap 120 = .ok (.iadd, 1) := by decide +kernel
theorem dX8_swap_121 : decode cX8_swap 121 = .ok (.istore_n 2, 1) := by decide +kernel
theorem dX8_swap_122 : decode cX8_swap 122 = .ok (.aload_n 0, 1) := by decide +kernel
theorem dX8_swap_123 : decode cX8_swap 123 = .ok (.getfield 28, 3) := by decide +kernel
theorem dX8_swap_126 : decode cX8_swap 126 = .ok (.getfield 177, 3) := by decide +kernel
theorem dX8_swap_129 : decode cX8_swap 129 = .ok (.iload_n 3, 1) := by decide +kernel
theorem dX8_swap_130 : decode cX8_swap 130 = .ok (.aload_n 0, 1) := by decide +kernel
theorem dX8_swap_131 : decode cX8_swap 131 = .ok (.getfield 24, 3) := by decide +kernel
theorem dX8_swap_134 : decode cX8_swap 134 = .ok (.getfield 177, 3) := by decide +kernel
theorem dX8_swap_137 : decode cX8_swap 137 = .ok (.iload_n 3, 1) := by decide +kernel
theorem dX8_swap_138 : decode cX8_swap 138 = .ok (.iaload, 1) := by decide +kernel
theorem dX8_swap_139 : decode cX8_swap 139 = .ok (.iastore, 1) := by decide +kernel
theorem dX8_swap_140 : decode cX8_swap 140 = .ok (.aload_n 0, 1) := by decide +kernel
theorem dX8_swap_141 : decode cX8_swap 141 = .ok (.getfield 28, 3) := by decide +kernel
theorem dX8_swap_144 : decode cX8_swap 144 = .ok (.getfield 177, 3) := by decide +kernel
theorem dX8_swap_147 : decode cX8_swap 147 = .ok (.iload 4, 2) := by decide +kernel
theorem dX8_swap_149 : decode cX8_swap 149 = .ok (.aload_n 0, 1) := by decide +kernel
theorem dX8_swap_150 : decode cX8_swap 150 = .ok (.getfield 24, 3) := by decide +kernel
theorem dX8_swap_153 : decode cX8_swap 153 = .ok (.getfield 177, 3) := by decide +kernel
theorem dX8_swap_156 : decode cX8_swap 156 = .ok (.iload 4, 2) := by decide +kernel
theorem dX8_swap_158 : decode cX8_swap 158 = .ok (.iaload, 1) := by decide +kernel
theorem dX8_swap_159 : decode cX8_swap 159 = .ok (.iastore, 1) := by decide +kernel
theorem dX8_swap_160 : decode cX8_swap 160 = .ok (.iinc 4 1, 3) := by decide +kernel
theorem dX8_swap_163 : decode cX8_swap 163 = .ok (.goto (-120), 3) := by decide +kernel
theorem dX8_swap_166 : decode cX8_swap 166 = .ok (.iinc 3 1, 3) := by decide +kernel
theorem dX8_swap_169 : decode cX8_swap 169 = .ok (.goto (-142), 3) := by decide +kernel
theorem dX8_swap_172 : decode cX8_swap 172 = .ok (.iload_n 2, 1) := by decide +kernel
theorem dX8_swap_173 : decode cX8_swap 173 = .ok (.bipush (-9), 2) := by decide +kernel
theorem dX8_swap_175 : decode cX8_swap 175 = .ok (.if_icmp .eq 8, 3) := by decide +kernel
theorem dX8_swap_178 : decode cX8_swap 178 = .ok (.aload_n 0, 1) := by decide +kernel
theorem dX8_swap_179 : decode cX8_swap 179 = .ok (.iload_n 1, 1) := by decide +kernel
theorem dX8_swap_180 : decode cX8_swap 180 = .ok (.putfield 92, 3) := by decide +kernel
theorem dX8_swap_183 : decode cX8_swap 183 = .ok (.iload_n 2, 1) := by decide +kernel
theorem dX8_swap_184 : decode cX8_swap 184 = .ok (.ireturn, 1) := by decide +kernel
set_option maxRecDepth 20000 in
theorem ggX8_paste_X8_isRow : GoodIn wsX8_paste wsX8_isRow := goodIn_r _ [11] (by decide +kernel) (by decide +kernel)
set_option maxRecDepth 20000 in
theorem gX8_paste_X8_isRow : GoodIn wsX8_paste (va_wsS RX8 66 yX8_isRow wsX8_isRow) := goodIn_app (goodIn_of _ (by decide +kernel)) ggX8_paste_X8_isRow
set_option maxRecDepth 20000 in
theorem ggX8_paste_X8_find : GoodIn wsX8_paste wsX8_find := goodIn_r _ [15, 16, 17, 124, 125, 126, 127, 128, 129, 130, 131, 132, 133, 134, 135] (by decide +kernel) (by decide +kernel)
set_option maxRecDepth 20000 in
theorem gX8_paste_X8_find : GoodIn wsX8_paste (wsV RX8 70 RX8 yX8_find wsX8_find) := goodIn_app (goodIn_of _ (by decide +kernel)) ggX8_paste_X8_find
set_option maxRecDepth 20000 in
theorem ggX8_paste_X6_become : GoodIn wsX8_paste wsX6_become := goodIn_r _ [22, 23, 24, 25, 26, 27, 28, 29, 30, 31, 32, 33, 34, 35, 36, 37, 38, 39, 40, 41, 42, 43, 44, 45, 46, 47, 48, 49, 136, 137, 138, 139, 140, 141, 142, 143, 144, 145, 146, 149, 150, 151, 152, 153, 154] (by decide +kernel) (by decide +kernel)
set_option maxRecDepth 20000 in
theorem gX8_paste_X6_become : GoodIn wsX8_paste (wsV RX8 127 RX6 yX6_become wsX6_become) := goodIn_app (goodIn_of _ (by decide +kernel)) ggX8_paste_X6_become
set_option maxRecDepth 20000 in
theorem ggX8_paste_X8_isSafeByPasting : GoodIn wsX8_paste wsX8_isSafeByPasting := goodIn_r _ [53, 5, 1, 7, 3, 54, 6, 55, 56, 57, 58, 59, 60, 61, 62, 63, 64, 21, 65, 23, 31, 26, 66, 67, 68, 69, 70, 71, 72, 73, 34, 35, 74, 75, 76, 77, 24, 78, 79, 80, 81, 36, 82, 83, 84, 85, 33, 86, 87, 88, 89, 90, 91, 32, 92, 93, 94, 95, 96, 97, 98, 99, 100, 101, 102, 103, 104, 105, 106, 107, 108, 109, 110, 111, 124, 125, 126, 127, 128, 129, 130, 131, 132, 133, 134, 135, 136, 137, 138, 139, 140, 141, 142, 143, 144, 145, 146, 147, 148] (by decide +kernel) (by decide +kernel)
set_option maxRecDepth 20000 in
theorem gX8_paste_X8_isSafeByPasting : GoodIn wsX8_paste (wsV RX8 257 RX8 yX8_isSafeByPasting wsX8_isSafeByPasting) := goodIn_app (goodIn_of _ (by decide +kernel)) ggX8_paste_X8_isSafeByPasting
set_option maxRecDepth 20000 in
theorem ggX8_paste_X4_fill : GoodIn wsX8_paste wsX4_fill := goodIn_r _ [116, 117, 118, 28, 29, 30, 119, 120, 121, 115, 122, 123, 155, 156] (by decide +kernel) (by decide +kernel)
set_option maxRecDepth 20000 in
theorem gX8_paste_X4_fill : GoodIn wsX8_paste (wsV RX8 250 RX4 yX4_fill wsX4_fill) := goodIn_app (goodIn_of _ (by decide +kernel)) ggX8_paste_X4_fill
theorem dX8_paste_0 : decode cX8_paste 0 = .ok (.iload_n 1, 1) := by decide +kernel
theorem dX8_paste_1 : decode cX8_paste 1 = .ok (.ifCond .lt 10, 3) := by decide +kernel
theorem dX8_paste_4 : decode cX8_paste 4 = .ok (.iload_n 2, 1) := by decide +kernel
theorem dX8_paste_5 : decode cX8_paste 5 = .ok (.invokestatic 66, 3) := by decide +kernel
theorem dX8_paste_8 : decode cX8_paste 8 = .ok (.ifCond .ne 5, 3) := by decide +kernel
theorem dX8_paste_11 : decode cX8_paste 11 = .ok (.iconst (-1), 1) := by decide +kernel
theorem dX8_paste_12 : decode cX8_paste 12 = .ok (.ireturn, 1) := by decide +kernel
theorem dX8_paste_13 : decode cX8_paste 13 = .ok (.iload_n 1, 1) := by decide +kernel
theorem dX8_paste_14 : decode cX8_paste 14 = .ok (.aload_n 0, 1) := by decide +kernel
theorem dX8_paste_15 : decode cX8_paste 15 = .ok (.getfield 24, 3) := by decide +kernel
theorem dX8_paste_18 : decode cX8_paste 18 = .ok (.getfield 202, 3) := by decide +kernel
theorem dX8_paste_21 : decode cX8_paste 21 = .ok (.if_icmp .lt 9, 3) := by decide +kernel
theorem dX8_paste_24 : decode cX8_paste 24 = .ok (.aload_n 0, 1) := by decide +kernel
theorem dX8_paste_25 : decode cX8_paste 25 = .ok (.iconst 2, 1) := by decide +kernel
theorem dX8_paste_26 : decode cX8_paste 26 = .ok (.invokevirtual 70, 3) := by decide +kernel
theorem dX8_paste_29 : decode cX8_paste 29 = .ok (.ireturn, 1) := by decide +kernel
theorem dX8_paste_30 : decode cX8_paste 30 = .ok (.aload_n 0, 1) := by decide +kernel
theorem dX8_paste_31 : decode cX8_paste 31 = .ok (.getfield 28, 3) := by decide +kernel
theorem dX8_paste_34 : decode cX8_paste 34 = .ok (.aload_n 0, 1) := by decide +kernel
theorem dX8_paste_35 : decode cX8_paste 35 = .ok (.getfield 24, 3) := by decide +kernel
theorem dX8_paste_38 : decode cX8_paste 38 = .ok (.invokevirtual 127, 3) := by decide +kernel
theorem dX8_paste_41 : decode cX8_paste 41 = .ok (.iconst 0, 1) := by decide +kernel
theorem dX8_paste_42 : decode cX8_paste 42 = .ok (.istore_n 3, 1) := by decide +kernel
theorem dX8_paste_43 : decode cX8_paste 43 = .ok (.iload_n 3, 1) := by decide +kernel
theorem dX8_paste_44 : decode cX8_paste 44 = .ok (.bipush 6, 2) := by decide +kernel
theorem dX8_paste_46 : decode cX8_paste 46 = .ok (.if_icmp .gt 43, 3) := by decide +kernel
theorem dX8_paste_49 : decode cX8_paste 49 = .ok (.aload_n 0, 1) := by decide +kernel
theorem dX8_paste_50 : decode cX8_paste 50 = .ok (.iload_n 1, 1) := by decide +kernel
theorem dX8_paste_51 : decode cX8_paste 51 = .ok (.iload_n 3, 1) := by decide +kernel
theorem dX8_paste_52 : decode cX8_paste 52 = .ok (.invokevirtual 257, 3) := by decide +kernel
theorem dX8_paste_55 : decode cX8_paste 55 = .ok (.ifCond .eq 28, 3) := by decide +kernel
theorem dX8_paste_58 : decode cX8_paste 58 = .ok (.aload_n 0, 1) := by decide +kernel
theorem dX8_paste_59 : decode cX8_paste 59 = .ok (.getfield 11, 3) := by decide +kernel
theorem dX8_paste_62 : decode cX8_paste 62 = .ok (.iload_n 2, 1) := by decide +kernel
theorem dX8_paste_63 : decode cX8_paste 63 = .ok (.aaload, 1) := by decide +kernel
theorem dX8_paste_64 : decode cX8_paste 64 = .ok (.aload_n 0, 1) := by decide +kernel
theorem dX8_paste_65 : decode cX8_paste 65 = .ok (.getfield 56, 3) := by decide +kernel
theorem dX8_paste_68 : decode cX8_paste 68 = .ok (.getfield 260, 3) := by decide +kernel
theorem dX8_paste_71 : decode cX8_paste 71 = .ok (.aload_n 0, 1) := by decide +kernel
theorem dX8_paste_72 : decode cX8_paste 72 = .ok (.getfield 24, 3) := by decide +kernel
theorem dX8_paste_75 : decode cX8_paste 75 = .ok (.getfield 165, 3) := by decide +kernel
theorem dX8_paste_78 : decode cX8_paste 78 = .ok (.invokevirtual 250, 3) := by decide +kernel
theorem dX8_paste_81 : decode cX8_paste 81 = .ok (.iload_n 3, 1) := by decide +kernel
theorem dX8_paste_82 : decode cX8_paste 82 = .ok (.ireturn, 1) := by decide +kernel
theorem dX8_paste_83 : decode cX8_paste 83 = .ok (.iinc 3 1, 3) := by decide +kernel
theorem dX8_paste_86 : decode cX8_paste 86 = .ok (.goto (-43), 3) := by decide +kernel
theorem dX8_paste_89 : decode cX8_paste 89 = .ok (.bipush (-9), 2) := by decide +kernel
theorem dX8_paste_91 : decode cX8_paste 91 = .ok (.ireturn, 1) := by decide +kernel
set_option maxRecDepth 20000 in
theorem ggX8_tearOff_X8_areTwo : GoodIn wsX8_tearOff wsX8_areTwo := goodIn_r _ [18, 19, 20, 21, 17, 22, 2, 23, 36, 37, 38, 39, 40, 41, 42, 43, 44, 45, 46, 47, 48, 49, 50, 51, 52, 53, 54, 55, 56, 57, 58] (by decide +kernel) (by decide +kernel)
set_option maxRecDepth 20000 in
theorem gX8_tearOff_X8_areTwo : GoodIn wsX8_tearOff (wsV RX8 180 RX8 yX8_areTwo wsX8_areTwo) := goodIn_app (goodIn_of _ (by decide +kernel)) ggX8_tearOff_X8_areTwo
set_option maxRecDepth 20000 in
theorem ggX8_tearOff_X6_comesTo : GoodIn wsX8_tearOff wsX6_comesTo := goodIn_r _ [28, 29, 30, 31, 32, 33, 34, 8, 35, 48, 49, 50, 51, 52, 53, 54, 55, 56, 57, 58] (by decide +kernel) (by decide +kernel)
set_option maxRecDepth 20000 in
theorem gX8_tearOff_X6_comesTo : GoodIn wsX8_tearOff (wsV RX8 183 RX6 yX6_comesTo wsX6_comesTo) := goodIn_app (goodIn_of _ (by decide +kernel)) ggX8_tearOff_X6_comesTo
theorem dX8_tearOff_0 : decode cX8_tearOff 0 = .ok (.aload_n 0, 1) := by decide +kernel
theorem dX8_tearOff_1 : decode cX8_tearOff 1 = .ok (.iload_n 1, 1) := by decide +kernel
theorem dX8_tearOff_2 : decode cX8_tearOff 2 = .ok (.iload_n 2, 1) := by decide +kernel
theorem dX8_tearOff_3 : decode cX8_tearOff 3 = .ok (.invokevirtual 180, 3) := by decide +kernel
theorem dX8_tearOff_6 : decode cX8_tearOff 6 = .ok (.ifCond .ne 5, 3) := by decide +kernel
theorem dX8_tearOff_9 : decode cX8_tearOff 9 = .ok (.iconst (-1), 1) := by decide +kernel
theorem dX8_tearOff_10 : decode cX8_tearOff 10 = .ok (.ireturn, 1) := by decide +kernel
theorem dX8_tearOff_11 : decode cX8_tearOff 11 = .ok (.getstatic 263, 3) := by decide +kernel
theorem dX8_tearOff_14 : decode cX8_tearOff 14 = .ok (.aload_n 0, 1) := by decide +kernel
theorem dX8_tearOff_15 : decode cX8_tearOff 15 = .ok (.getfield 24, 3) := by decide +kernel
theorem dX8_tearOff_18 : decode cX8_tearOff 18 = .ok (.getfield 142, 3) := by decide +kernel
theorem dX8_tearOff_21 : decode cX8_tearOff 21 = .ok (.iload_n 1, 1) := by decide +kernel
theorem dX8_tearOff_22 : decode cX8_tearOff 22 = .ok (.iaload, 1) := by decide +kernel
theorem dX8_tearOff_23 : decode cX8_tearOff 23 = .ok (.iaload, 1) := by decide +kernel
theorem dX8_tearOff_24 : decode cX8_tearOff 24 = .ok (.aload_n 0, 1) := by decide +kernel
theorem dX8_tearOff_25 : decode cX8_tearOff 25 = .ok (.getfield 24, 3) := by decide +kernel
theorem dX8_tearOff_28 : decode cX8_tearOff 28 = .ok (.aload_n 0, 1) := by decide +kernel
theorem dX8_tearOff_29 : decode cX8_tearOff 29 = .ok (.getfield 24, 3) := by decide +kernel
theorem dX8_tearOff_32 : decode cX8_tearOff 32 = .ok (.getfield 177, 3) := by decide +kernel
theorem dX8_tearOff_35 : decode cX8_tearOff 35 = .ok (.iload_n 1, 1) := by decide +kernel
theorem dX8_tearOff_36 : decode cX8_tearOff 36 = .ok (.iaload, 1) := by decide +kernel
theorem dX8_tearOff_37 : decode cX8_tearOff 37 = .ok (.iload_n 2, 1) := by decide +kernel
theorem dX8_tearOff_38 : decode cX8_tearOff 38 = .ok (.invokevirtual 183, 3) := by decide +kernel
theorem dX8_tearOff_41 : decode cX8_tearOff 41 = .ok (.isub, 1) := by decide +kernel
theorem dX8_tearOff_42 : decode cX8_tearOff 42 = .ok (.istore_n 3, 1) := by decide +kernel
theorem dX8_tearOff_43 : decode cX8_tearOff 43 = .ok (.iload_n 3, 1) := by decide +kernel
theorem dX8_tearOff_44 : decode cX8_tearOff 44 = .ok (.ifCond .gt 11, 3) := by decide +kernel
theorem dX8_tearOff_47 : decode cX8_tearOff 47 = .ok (.aload_n 0, 1) := by decide +kernel
theorem dX8_tearOff_48 : decode cX8_tearOff 48 = .ok (.bipush (-9), 2) := by decide +kernel
theorem dX8_tearOff_50 : decode cX8_tearOff 50 = .ok (.putfield 92, 3) := by decide +kernel
theorem dX8_tearOff_53 : decode cX8_tearOff 53 = .ok (.iconst 0, 1) := by decide +kernel
theorem dX8_tearOff_54 : decode cX8_tearOff 54 = .ok (.ireturn, 1) := by decide +kernel
theorem dX8_tearOff_55 : decode cX8_tearOff 55 = .ok (.aload_n 0, 1) := by decide +kernel
theorem dX8_tearOff_56 : decode cX8_tearOff 56 = .ok (.getfield 24, 3) := by decide +kernel
theorem dX8_tearOff_59 : decode cX8_tearOff 59 = .ok (.getfield 177, 3) := by decide +kernel
theorem dX8_tearOff_62 : decode cX8_tearOff 62 = .ok (.iload_n 1, 1) := by decide +kernel
theorem dX8_tearOff_63 : decode cX8_tearOff 63 = .ok (.iaload, 1) := by decide +kernel
theorem dX8_tearOff_64 : decode cX8_tearOff 64 = .ok (.aload_n 0, 1) := by decide +kernel
theorem dX8_tearOff_65 : decode cX8_tearOff 65 = .ok (.getfield 24, 3) := by decide +kernel
theorem dX8_tearOff_68 : decode cX8_tearOff 68 = .ok (.getfield 177, 3) := by decide +kernel
theorem dX8_tearOff_71 : decode cX8_tearOff 71 = .ok (.iload_n 2, 1) := by decide +kernel
theorem dX8_tearOff_72 : decode cX8_tearOff 72 = .ok (.iaload, 1) := by decide +kernel
theorem dX8_tearOff_73 : decode cX8_tearOff 73 = .ok (.invokestatic 266, 3) := by decide +kernel
theorem dX8_tearOff_76 : decode cX8_tearOff 76 = .ok (.istore 4, 2) := by decide +kernel
theorem dX8_tearOff_78 : decode cX8_tearOff 78 = .ok (.aload_n 0, 1) := by decide +kernel
theorem dX8_tearOff_79 : decode cX8_tearOff 79 = .ok (.getfield 24, 3) := by decide +kernel
theorem dX8_tearOff_82 : decode cX8_tearOff 82 = .ok (.getfield 177, 3) := by decide +kernel
theorem dX8_tearOff_85 : decode cX8_tearOff 85 = .ok (.iload_n 1, 1) := by decide +kernel
theorem dX8_tearOff_86 : decode cX8_tearOff 86 = .ok (.iaload, 1) := by decide +kernel
theorem dX8_tearOff_87 : decode cX8_tearOff 87 = .ok (.aload_n 0, 1) := by decide +kernel
theorem dX8_tearOff_88 : decode cX8_tearOff 88 = .ok (.getfield 24, 3) := by decide +kernel
theorem dX8_tearOff_91 : decode cX8_tearOff 91 = .ok (.getfield 177, 3) := by decide +kernel
theorem dX8_tearOff_94 : decode cX8_tearOff 94 = .ok (.iload_n 2, 1) := by decide +kernel
theorem dX8_tearOff_95 : decode cX8_tearOff 95 = .ok (.iaload, 1) := by decide +kernel
theorem dX8_tearOff_96 : decode cX8_tearOff 96 = .ok (.invokestatic 271, 3) := by decide +kernel
theorem dX8_tearOff_99 : decode cX8_tearOff 99 = .ok (.istore 5, 2) := by decide +kernel
theorem dX8_tearOff_101 : decode cX8_tearOff 101 = .ok (.iload 4, 2) := by decide +kernel
theorem dX8_tearOff_103 : decode cX8_tearOff 103 = .ok (.istore 6, 2) := by decide +kernel
theorem dX8_tearOff_105 : decode cX8_tearOff 105 = .ok (.iload 6, 2) := by decide +kernel
theorem dX8_tearOff_107 : decode cX8_tearOff 107 = .ok (.iload 5, 2) := by decide +kernel
theorem dX8_tearOff_109 : decode cX8_tearOff 109 = .ok (.if_icmp .ge 31, 3) := by decide +kernel
theorem dX8_tearOff_112 : decode cX8_tearOff 112 = .ok (.aload_n 0, 1) := by decide +kernel
theorem dX8_tearOff_113 : decode cX8_tearOff 113 = .ok (.getfield 24, 3) := by decide +kernel
theorem dX8_tearOff_116 : decode cX8_tearOff 116 = .ok (.getfield 168, 3) := by decide +kernel
theorem dX8_tearOff_119 : decode cX8_tearOff 119 = .ok (.iload 6, 2) := by decide +kernel
theorem dX8_tearOff_121 : decode cX8_tearOff 121 = .ok (.iaload, 1) := by decide +kernel
theorem dX8_tearOff_122 : decode cX8_tearOff 122 = .ok (.iload_n 3, 1) := by decide +kernel
theorem dX8_tearOff_123 : decode cX8_tearOff 123 = .ok (.if_icmp .lt 11, 3) := by decide +kernel
theorem dX8_tearOff_126 : decode cX8_tearOff 126 = .ok (.aload_n 0, 1) := by decide +kernel
theorem dX8_tearOff_127 : decode cX8_tearOff 127 = .ok (.iload 6, 2) := by decide +kernel
theorem dX8_tearOff_129 : decode cX8_tearOff 129 = .ok (.putfield 92, 3) := by decide +kernel
theorem dX8_tearOff_132 : decode cX8_tearOff 132 = .ok (.iload_n 3, 1) := by decide +kernel
theorem dX8_tearOff_133 : decode cX8_tearOff 133 = .ok (.ireturn, 1) := by decide +kernel
theorem dX8_tearOff_134 : decode cX8_tearOff 134 = .ok (.iinc 6 1, 3) := by decide +kernel
theorem dX8_tearOff_137 : decode cX8_tearOff 137 = .ok (.goto (-32), 3) := by decide +kernel
theorem dX8_tearOff_140 : decode cX8_tearOff 140 = .ok (.bipush (-9), 2) := by decide +kernel
theorem dX8_tearOff_142 : decode cX8_tearOff 142 = .ok (.ireturn, 1) := by decide +kernel
set_option maxRecDepth 20000 in
theorem ggX8_rent_X8_isRoom : GoodIn wsX8_rent wsX8_isRoom := goodIn_r _ [11, 1, 12, 30, 31, 32, 33, 34, 35, 36, 37, 38, 39, 40, 41, 42, 43, 44, 45, 46, 47, 48, 49, 50, 51, 52] (by decide +kernel) (by decide +kernel)
set_option maxRecDepth 20000 in
theorem gX8_rent_X8_isRoom : GoodIn wsX8_rent (wsV RX8 174 RX8 yX8_isRoom wsX8_isRoom) := goodIn_app (goodIn_of _ (by decide +kernel)) ggX8_rent_X8_isRoom
set_option maxRecDepth 20000 in
theorem ggX8_rent_X6_comesTo : GoodIn wsX8_rent wsX6_comesTo := goodIn_r _ [17, 18, 19, 20, 21, 22, 23, 5, 24, 42, 43, 44, 45, 46, 47, 48, 49, 50, 51, 52] (by decide +kernel) (by decide +kernel)
set_option maxRecDepth 20000 in
theorem gX8_rent_X6_comesTo : GoodIn wsX8_rent (wsV RX8 183 RX6 yX6_comesTo wsX6_comesTo) := goodIn_app (goodIn_of _ (by decide +kernel)) ggX8_rent_X6_comesTo
set_option maxRecDepth 20000 in
theorem ggX8_rent_X2_isEnough : GoodIn wsX8_rent wsX2_isEnough := goodIn_r _ [28, 29] (by decide +kernel) (by decide +kernel)
set_option maxRecDepth 20000 in
theorem gX8_rent_X2_isEnough : GoodIn wsX8_rent (va_wsS RX8 274 yX2_isEnough wsX2_isEnough) := goodIn_app (goodIn_of _ (by decide +kernel)) ggX8_rent_X2_isEnough
theorem dX8_rent_0 : decode cX8_rent 0 = .ok (.aload_n 0, 1) := by decide +kernel
theorem dX8_rent_1 : decode cX8_rent 1 = .ok (.iload_n 1, 1) := by decide +kernel
theorem dX8_rent_2 : decode cX8_rent 2 = .ok (.invokevirtual 174, 3) := by decide +kernel
theorem dX8_rent_5 : decode cX8_rent 5 = .ok (.ifCond .ne 5, 3) := by decide +kernel
theorem dX8_rent_8 : decode cX8_rent 8 = .ok (.iconst (-1), 1) := by decide +kernel
theorem dX8_rent_9 : decode cX8_rent 9 = .ok (.ireturn, 1) := by decide +kernel
theorem dX8_rent_10 : decode cX8_rent 10 = .ok (.iconst 0, 1) := by decide +kernel
theorem dX8_rent_11 : decode cX8_rent 11 = .ok (.istore_n 2, 1) := by decide +kernel
theorem dX8_rent_12 : decode cX8_rent 12 = .ok (.iconst 0, 1) := by decide +kernel
theorem dX8_rent_13 : decode cX8_rent 13 = .ok (.istore_n 3, 1) := by decide +kernel
theorem dX8_rent_14 : decode cX8_rent 14 = .ok (.iload_n 3, 1) := by decide +kernel
theorem dX8_rent_15 : decode cX8_rent 15 = .ok (.aload_n 0, 1) := by decide +kernel
theorem dX8_rent_16 : decode cX8_rent 16 = .ok (.getfield 24, 3) := by decide +kernel
theorem dX8_rent_19 : decode cX8_rent 19 = .ok (.getfield 131, 3) := by decide +kernel
theorem dX8_rent_22 : decode cX8_rent 22 = .ok (.if_icmp .ge 29, 3) := by decide +kernel
theorem dX8_rent_25 : decode cX8_rent 25 = .ok (.iconst 0, 1) := by decide +kernel
theorem dX8_rent_26 : decode cX8_rent 26 = .ok (.aload_n 0, 1) := by decide +kernel
theorem dX8_rent_27 : decode cX8_rent 27 = .ok (.getfield 24, 3) := by decide +kernel
theorem dX8_rent_30 : decode cX8_rent 30 = .ok (.iload_n 1, 1) := by decide +kernel
theorem dX8_rent_31 : decode cX8_rent 31 = .ok (.iload_n 3, 1) := by decide +kernel
theorem dX8_rent_32 : decode cX8_rent 32 = .ok (.invokevirtual 183, 3) := by decide +kernel
theorem dX8_rent_35 : decode cX8_rent 35 = .ok (.iconst 0, 1) := by decide +kernel
theorem dX8_rent_36 : decode cX8_rent 36 = .ok (.invokestatic 274, 3) := by decide +kernel
theorem dX8_rent_39 : decode cX8_rent 39 = .ok (.ifCond .eq 6, 3) := by decide +kernel
theorem dX8_rent_42 : decode cX8_rent 42 = .ok (.iinc 2 1, 3) := by decide +kernel
theorem dX8_rent_45 : decode cX8_rent 45 = .ok (.iinc 3 1, 3) := by decide +kernel
theorem dX8_rent_48 : decode cX8_rent 48 = .ok (.goto (-34), 3) := by decide +kernel
theorem dX8_rent_51 : decode cX8_rent 51 = .ok (.iconst 0, 1) := by decide +kernel
theorem dX8_rent_52 : decode cX8_rent 52 = .ok (.bipush 20, 2) := by decide +kernel
theorem dX8_rent_54 : decode cX8_rent 54 = .ok (.iconst 2, 1) := by decide +kernel
theorem dX8_rent_55 : decode cX8_rent 55 = .ok (.iload_n 2, 1) := by decide +kernel
theorem dX8_rent_56 : decode cX8_rent 56 = .ok (.imul, 1) := by decide +kernel
theorem dX8_rent_57 : decode cX8_rent 57 = .ok (.isub, 1) := by decide +kernel
theorem dX8_rent_58 : decode cX8_rent 58 = .ok (.invokestatic 271, 3) := by decide +kernel
theorem dX8_rent_61 : decode cX8_rent 61 = .ok (.ireturn, 1) := by decide +kernel
set_option maxRecDepth 20000 in
theorem ggX8_comes_X8_isOne : GoodIn wsX8_comes wsX8_isOne := goodIn_r _ [7, 1, 8, 29, 30, 31, 32, 33, 34, 35, 36, 37, 38, 39, 40, 41, 42, 43, 44, 45, 46, 47, 48, 49, 50, 51] (by decide +kernel) (by decide +kernel)
set_option maxRecDepth 20000 in
theorem gX8_comes_X8_isOne : GoodIn wsX8_comes (wsV RX8 134 RX8 yX8_isOne wsX8_isOne) := goodIn_app (goodIn_of _ (by decide +kernel)) ggX8_comes_X8_isOne
set_option maxRecDepth 20000 in
theorem ggX8_comes_X8_isThing : GoodIn wsX8_comes wsX8_isThing := goodIn_r _ [11] (by decide +kernel) (by decide +kernel)
set_option maxRecDepth 20000 in
theorem gX8_comes_X8_isThing : GoodIn wsX8_comes (va_wsS RX8 278 yX8_isThing wsX8_isThing) := goodIn_app (goodIn_of _ (by decide +kernel)) ggX8_comes_X8_isThing
set_option maxRecDepth 20000 in
theorem ggX8_comes_X1_learn : GoodIn wsX8_comes wsX1_learn := goodIn_r _ [16, 17, 52, 53, 54, 55, 56, 57] (by decide +kernel) (by decide +kernel)
set_option maxRecDepth 20000 in
theorem gX8_comes_X1_learn : GoodIn wsX8_comes (wsV RX8 284 RX1 yX1_learn wsX1_learn) := goodIn_app (goodIn_of _ (by decide +kernel)) ggX8_comes_X1_learn
set_option maxRecDepth 20000 in
theorem ggX8_comes_X1_whoKnow : GoodIn wsX8_comes wsX1_whoKnow := goodIn_r _ [21, 17, 52, 53, 54, 55, 56, 57] (by decide +kernel) (by decide +kernel)
set_option maxRecDepth 20000 in
theorem gX8_comes_X1_whoKnow : GoodIn wsX8_comes (wsV RX8 290 RX1 yX1_whoKnow wsX1_whoKnow) := goodIn_app (goodIn_of _ (by decide +kernel)) ggX8_comes_X1_whoKnow
set_option maxRecDepth 20000 in
theorem ggX8_comes_J6_bitCount_0f7a4 : GoodIn wsX8_comes wsJ6_bitCount_0f7a4 := goodIn_r _ [25, 26, 27, 28] (by decide +kernel) (by decide +kernel)
set_option maxRecDepth 20000 in
theorem gX8_comes_J6_bitCount_0f7a4 : GoodIn wsX8_comes (va_wsS RX8 151 yJ6_bitCount_0f7a4 wsJ6_bitCount_0f7a4) := goodIn_app (goodIn_of _ (by decide +kernel)) ggX8_comes_J6_bitCount_0f7a4
theorem dX8_comes_0 : decode cX8_comes 0 = .ok (.aload_n 0, 1) := by decide +kernel
theorem dX8_comes_1 : decode cX8_comes 1 = .ok (.iload_n 1, 1) := by decide +kernel
theorem dX8_comes_2 : decode cX8_comes 2 = .ok (.invokevirtual 134, 3) := by decide +kernel
theorem dX8_comes_5 : decode cX8_comes 5 = .ok (.ifCond .eq 10, 3) := by decide +kernel
theorem dX8_comes_8 : decode cX8_comes 8 = .ok (.iload_n 2, 1) := by decide +kernel
theorem dX8_comes_9 : decode cX8_comes 9 = .ok (.invokestatic 278, 3) := by decide +kernel
theorem dX8_comes_12 : decode cX8_comes 12 = .ok (.ifCond .ne 5, 3) := by decide +kernel
theorem dX8_comes_15 : decode cX8_comes 15 = .ok (.iconst (-1), 1) := by decide +kernel
theorem dX8_comes_16 : decode cX8_comes 16 = .ok (.ireturn, 1) := by decide +kernel
theorem dX8_comes_17 : decode cX8_comes 17 = .ok (.aload_n 0, 1) := by decide +kernel
theorem dX8_comes_18 : decode cX8_comes 18 = .ok (.getfield 24, 3) := by decide +kernel
theorem dX8_comes_21 : decode cX8_comes 21 = .ok (.getfield 281, 3) := by decide +kernel
theorem dX8_comes_24 : decode cX8_comes 24 = .ok (.iload_n 2, 1) := by decide +kernel
theorem dX8_comes_25 : decode cX8_comes 25 = .ok (.iconst 1, 1) := by decide +kernel
theorem dX8_comes_26 : decode cX8_comes 26 = .ok (.iload_n 1, 1) := by decide +kernel
theorem dX8_comes_27 : decode cX8_comes 27 = .ok (.ishl, 1) := by decide +kernel
theorem dX8_comes_28 : decode cX8_comes 28 = .ok (.invokevirtual 284, 3) := by decide +kernel
theorem dX8_comes_31 : decode cX8_comes 31 = .ok (.aload_n 0, 1) := by decide +kernel
theorem dX8_comes_32 : decode cX8_comes 32 = .ok (.getfield 24, 3) := by decide +kernel
theorem dX8_comes_35 : decode cX8_comes 35 = .ok (.getfield 281, 3) := by decide +kernel
theorem dX8_comes_38 : decode cX8_comes 38 = .ok (.iload_n 2, 1) := by decide +kernel
theorem dX8_comes_39 : decode cX8_comes 39 = .ok (.invokevirtual 290, 3) := by decide +kernel
theorem dX8_comes_42 : decode cX8_comes 42 = .ok (.invokestatic 151, 3) := by decide +kernel
theorem dX8_comes_45 : decode cX8_comes 45 = .ok (.ireturn, 1) := by decide +kernel
set_option maxRecDepth 20000 in
theorem ggX8_tell_X8_isOne : GoodIn wsX8_tell wsX8_isOne := goodIn_r _ [8, 1, 9, 71, 72, 73, 74, 75, 76, 77, 78, 79, 80, 81, 82, 83, 84, 85, 86, 87, 88, 89, 90, 91, 92, 93] (by decide +kernel) (by decide +kernel)
set_option maxRecDepth 20000 in
theorem gX8_tell_X8_isOne : GoodIn wsX8_tell (wsV RX8 134 RX8 yX8_isOne wsX8_isOne) := goodIn_app (goodIn_of _ (by decide +kernel)) ggX8_tell_X8_isOne
set_option maxRecDepth 20000 in
theorem ggX8_tell_X8_isThing : GoodIn wsX8_tell wsX8_isThing := goodIn_r _ [12] (by decide +kernel) (by decide +kernel)
set_option maxRecDepth 20000 in
theorem gX8_tell_X8_isThing : GoodIn wsX8_tell (va_wsS RX8 278 yX8_isThing wsX8_isThing) := goodIn_app (goodIn_of _ (by decide +kernel)) ggX8_tell_X8_isThing
set_option maxRecDepth 20000 in
theorem ggX8_tell_X1_whoKnow : GoodIn wsX8_tell wsX1_whoKnow := goodIn_r _ [17, 18, 94, 95, 96, 97, 98, 99] (by decide +kernel) (by decide +kernel)
set_option maxRecDepth 20000 in
theorem gX8_tell_X1_whoKnow : GoodIn wsX8_tell (wsV RX8 290 RX1 yX1_whoKnow wsX1_whoKnow) := goodIn_app (goodIn_of _ (by decide +kernel)) ggX8_tell_X1_whoKnow
set_option maxRecDepth 20000 in
theorem ggX8_tell_X6_whoHear : GoodIn wsX8_tell wsX6_whoHear := goodIn_r _ [23, 24, 25, 26, 22, 27, 28, 29, 30, 31, 32, 33, 34, 35, 36, 37, 38, 39, 40, 41, 42, 43, 44, 45, 46, 47, 48, 49, 50, 51, 52, 53, 54, 55, 56, 57, 83, 84, 85, 86, 87, 88, 89, 90, 91, 92, 93] (by decide +kernel) (by decide +kernel)
set_option maxRecDepth 20000 in
theorem gX8_tell_X6_whoHear : GoodIn wsX8_tell (wsV RX8 148 RX6 yX6_whoHear wsX6_whoHear) := goodIn_app (goodIn_of _ (by decide +kernel)) ggX8_tell_X6_whoHear
set_option maxRecDepth 20000 in
theorem ggX8_tell_X1_add : GoodIn wsX8_tell wsX1_add := goodIn_r _ [61, 62, 63, 64, 65, 66, 18, 67, 68, 69, 16, 70, 94, 95, 96, 97, 98, 99] (by decide +kernel) (by decide +kernel)
set_option maxRecDepth 20000 in
theorem gX8_tell_X1_add : GoodIn wsX8_tell (wsV RX8 294 RX1 yX1_add wsX1_add) := goodIn_app (goodIn_of _ (by decide +kernel)) ggX8_tell_X1_add
theorem dX8_tell_0 : decode cX8_tell 0 = .ok (.aload_n 0, 1) := by decide +kernel
theorem dX8_tell_1 : decode cX8_tell 1 = .ok (.iload_n 1, 1) := by decide +kernel
theorem dX8_tell_2 : decode cX8_tell 2 = .ok (.invokevirtual 134, 3) := by decide +kernel
theorem dX8_tell_5 : decode cX8_tell 5 = .ok (.ifCond .eq 10, 3) := by decide +kernel
theorem dX8_tell_8 : decode cX8_tell 8 = .ok (.iload_n 2, 1) := by decide +kernel
theorem dX8_tell_9 : decode cX8_tell 9 = .ok (.invokestatic 278, 3) := by decide +kernel
theorem dX8_tell_12 : decode cX8_tell 12 = .ok (.ifCond .ne 5, 3) := by decide +kernel
theorem dX8_tell_15 : decode cX8_tell 15 = .ok (.iconst (-1), 1) := by decide +kernel
theorem dX8_tell_16 : decode cX8_tell 16 = .ok (.ireturn, 1) := by decide +kernel
theorem dX8_tell_17 : decode cX8_tell 17 = .ok (.aload_n 0, 1) := by decide +kernel
theorem dX8_tell_18 : decode cX8_tell 18 = .ok (.getfield 24, 3) := by decide +kernel
theorem dX8_tell_21 : decode cX8_tell 21 = .ok (.getfield 281, 3) := by decide +kernel
theorem dX8_tell_24 : decode cX8_tell 24 = .ok (.iload_n 2, 1) := by decide +kernel
theorem dX8_tell_25 : decode cX8_tell 25 = .ok (.invokevirtual 290, 3) := by decide +kernel
theorem dX8_tell_28 : decode cX8_tell 28 = .ok (.iload_n 1, 1) := by decide +kernel
theorem dX8_tell_29 : decode cX8_tell 29 = .ok (.ishr, 1) := by decide +kernel
theorem dX8_tell_30 : decode cX8_tell 30 = .ok (.iconst 1, 1) := by decide +kernel
theorem dX8_tell_31 : decode cX8_tell 31 = .ok (.iand, 1) := by decide +kernel
theorem dX8_tell_32 : decode cX8_tell 32 = .ok (.ifCond .ne 6, 3) := by decide +kernel
theorem dX8_tell_35 : decode cX8_tell 35 = .ok (.bipush (-4), 2) := by decide +kernel
theorem dX8_tell_37 : decode cX8_tell 37 = .ok (.ireturn, 1) := by decide +kernel
theorem dX8_tell_38 : decode cX8_tell 38 = .ok (.aload_n 0, 1) := by decide +kernel
theorem dX8_tell_39 : decode cX8_tell 39 = .ok (.getfield 24, 3) := by decide +kernel
theorem dX8_tell_42 : decode cX8_tell 42 = .ok (.getfield 281, 3) := by decide +kernel
theorem dX8_tell_45 : decode cX8_tell 45 = .ok (.getfield 293, 3) := by decide +kernel
theorem dX8_tell_48 : decode cX8_tell 48 = .ok (.bipush 40, 2) := by decide +kernel
theorem dX8_tell_50 : decode cX8_tell 50 = .ok (.if_icmp .lt 6, 3) := by decide +kernel
theorem dX8_tell_53 : decode cX8_tell 53 = .ok (.bipush (-2), 2) := by decide +kernel
theorem dX8_tell_55 : decode cX8_tell 55 = .ok (.ireturn, 1) := by decide +kernel
theorem dX8_tell_56 : decode cX8_tell 56 = .ok (.aload_n 0, 1) := by decide +kernel
theorem dX8_tell_57 : decode cX8_tell 57 = .ok (.getfield 24, 3) := by decide +kernel
theorem dX8_tell_60 : decode cX8_tell 60 = .ok (.getfield 281, 3) := by decide +kernel
theorem dX8_tell_63 : decode cX8_tell 63 = .ok (.iload_n 1, 1) := by decide +kernel
theorem dX8_tell_64 : decode cX8_tell 64 = .ok (.iload_n 2, 1) := by decide +kernel
theorem dX8_tell_65 : decode cX8_tell 65 = .ok (.aload_n 0, 1) := by decide +kernel
theorem dX8_tell_66 : decode cX8_tell 66 = .ok (.getfield 24, 3) := by decide +kernel
theorem dX8_tell_69 : decode cX8_tell 69 = .ok (.iload_n 1, 1) := by decide +kernel
theorem dX8_tell_70 : decode cX8_tell 70 = .ok (.iconst 0, 1) := by decide +kernel
theorem dX8_tell_71 : decode cX8_tell 71 = .ok (.invokevirtual 148, 3) := by decide +kernel
theorem dX8_tell_74 : decode cX8_tell 74 = .ok (.invokevirtual 294, 3) := by decide +kernel
theorem dX8_tell_77 : decode cX8_tell 77 = .ok (.aload_n 0, 1) := by decide +kernel
theorem dX8_tell_78 : decode cX8_tell 78 = .ok (.getfield 24, 3) := by decide +kernel
theorem dX8_tell_81 : decode cX8_tell 81 = .ok (.getfield 281, 3) := by decide +kernel
theorem dX8_tell_84 : decode cX8_tell 84 = .ok (.iload_n 2, 1) := by decide +kernel
theorem dX8_tell_85 : decode cX8_tell 85 = .ok (.invokevirtual 290, 3) := by decide +kernel
theorem dX8_tell_88 : decode cX8_tell 88 = .ok (.ireturn, 1) := by decide +kernel
set_option maxRecDepth 20000 in
theorem ggX8_undo_X1_backTo : GoodIn wsX8_undo wsX1_backTo := goodIn_r _ [8, 9, 10, 11, 35, 36, 37, 38, 39, 40] (by decide +kernel) (by decide +kernel)
set_option maxRecDepth 20000 in
theorem gX8_undo_X1_backTo : GoodIn wsX8_undo (wsV RX8 298 RX1 yX1_backTo wsX1_backTo) := goodIn_app (goodIn_of _ (by decide +kernel)) ggX8_undo_X1_backTo
theorem dX8_undo_0 : decode cX8_undo 0 = .ok (.iload_n 1, 1) := by decide +kernel
theorem dX8_undo_1 : decode cX8_undo 1 = .ok (.ifCond .lt 17, 3) := by decide +kernel
theorem dX8_undo_4 : decode cX8_undo 4 = .ok (.iload_n 1, 1) := by decide +kernel
theorem dX8_undo_5 : decode cX8_undo 5 = .ok (.aload_n 0, 1) := by decide +kernel
theorem dX8_undo_6 : decode cX8_undo 6 = .ok (.getfield 24, 3) := by decide +kernel
theorem dX8_undo_9 : decode cX8_undo 9 = .ok (.getfield 281, 3) := by decide +kernel
theorem dX8_undo_12 : decode cX8_undo 12 = .ok (.getfield 293, 3) := by decide +kernel
theorem dX8_undo_15 : decode cX8_undo 15 = .ok (.if_icmp .le 5, 3) := by decide +kernel
theorem dX8_undo_18 : decode cX8_undo 18 = .ok (.iconst (-1), 1) := by decide +kernel
theorem dX8_undo_19 : decode cX8_undo 19 = .ok (.ireturn, 1) := by decide +kernel
theorem dX8_undo_20 : decode cX8_undo 20 = .ok (.aload_n 0, 1) := by decide +kernel
theorem dX8_undo_21 : decode cX8_undo 21 = .ok (.getfield 24, 3) := by decide +kernel
theorem dX8_undo_24 : decode cX8_undo 24 = .ok (.getfield 281, 3) := by decide +kernel
theorem dX8_undo_27 : decode cX8_undo 27 = .ok (.getfield 293, 3) := by decide +kernel
theorem dX8_undo_30 : decode cX8_undo 30 = .ok (.iload_n 1, 1) := by decide +kernel
theorem dX8_undo_31 : decode cX8_undo 31 = .ok (.isub, 1) := by decide +kernel
theorem dX8_undo_32 : decode cX8_undo 32 = .ok (.istore_n 2, 1) := by decide +kernel
theorem dX8_undo_33 : decode cX8_undo 33 = .ok (.aload_n 0, 1) := by decide +kernel
theorem dX8_undo_34 : decode cX8_undo 34 = .ok (.getfield 24, 3) := by decide +kernel
theorem dX8_undo_37 : decode cX8_undo 37 = .ok (.getfield 281, 3) := by decide +kernel
theorem dX8_undo_40 : decode cX8_undo 40 = .ok (.iload_n 1, 1) := by decide +kernel
theorem dX8_undo_41 : decode cX8_undo 41 = .ok (.invokevirtual 298, 3) := by decide +kernel
theorem dX8_undo_44 : decode cX8_undo 44 = .ok (.iload_n 2, 1) := by decide +kernel
theorem dX8_undo_45 : decode cX8_undo 45 = .ok (.ireturn, 1) := by decide +kernel
set_option maxRecDepth 20000 in
theorem ggX8_know_X8_isThing : GoodIn wsX8_know wsX8_isThing := goodIn_r _ [6] (by decide +kernel) (by decide +kernel)
set_option maxRecDepth 20000 in
theorem gX8_know_X8_isThing : GoodIn wsX8_know (va_wsS RX8 278 yX8_isThing wsX8_isThing) := goodIn_app (goodIn_of _ (by decide +kernel)) ggX8_know_X8_isThing
set_option maxRecDepth 20000 in
theorem ggX8_know_X1_whoKnow : GoodIn wsX8_know wsX1_whoKnow := goodIn_r _ [11, 12, 36, 37, 38, 39, 40, 41] (by decide +kernel) (by decide +kernel)
set_option maxRecDepth 20000 in
theorem gX8_know_X1_whoKnow : GoodIn wsX8_know (wsV RX8 290 RX1 yX1_whoKnow wsX1_whoKnow) := goodIn_app (goodIn_of _ (by decide +kernel)) ggX8_know_X1_whoKnow
theorem dX8_know_0 : decode cX8_know 0 = .ok (.iload_n 1, 1) := by decide +kernel
theorem dX8_know_1 : decode cX8_know 1 = .ok (.invokestatic 278, 3) := by decide +kernel
theorem dX8_know_4 : decode cX8_know 4 = .ok (.ifCond .ne 5, 3) := by decide +kernel
theorem dX8_know_7 : decode cX8_know 7 = .ok (.iconst (-1), 1) := by decide +kernel
theorem dX8_know_8 : decode cX8_know 8 = .ok (.ireturn, 1) := by decide +kernel
theorem dX8_know_9 : decode cX8_know 9 = .ok (.aload_n 0, 1) := by decide +kernel
theorem dX8_know_10 : decode cX8_know 10 = .ok (.getfield 24, 3) := by decide +kernel
theorem dX8_know_13 : decode cX8_know 13 = .ok (.getfield 281, 3) := by decide +kernel
theorem dX8_know_16 : decode cX8_know 16 = .ok (.iload_n 1, 1) := by decide +kernel
theorem dX8_know_17 : decode cX8_know 17 = .ok (.invokevirtual 290, 3) := by decide +kernel
theorem dX8_know_20 : decode cX8_know 20 = .ok (.ireturn, 1) := by decide +kernel
set_option maxRecDepth 20000 in
theorem ggX8_knowsThat_X8_areTwo : GoodIn wsX8_knowsThat wsX8_areTwo := goodIn_r _ [9, 10, 11, 12, 8, 13, 1, 14, 47, 48, 49, 50, 51, 52, 53, 54, 55, 56, 57, 58, 59, 60, 61, 62, 63, 64, 65, 66, 67, 68, 69] (by decide +kernel) (by decide +kernel)
set_option maxRecDepth 20000 in
theorem gX8_knowsThat_X8_areTwo : GoodIn wsX8_knowsThat (wsV RX8 180 RX8 yX8_areTwo wsX8_areTwo) := goodIn_app (goodIn_of _ (by decide +kernel)) ggX8_knowsThat_X8_areTwo
set_option maxRecDepth 20000 in
theorem ggX8_knowsThat_X8_isThing : GoodIn wsX8_knowsThat wsX8_isThing := goodIn_r _ [17] (by decide +kernel) (by decide +kernel)
set_option maxRecDepth 20000 in
theorem gX8_knowsThat_X8_isThing : GoodIn wsX8_knowsThat (va_wsS RX8 278 yX8_isThing wsX8_isThing) := goodIn_app (goodIn_of _ (by decide +kernel)) ggX8_knowsThat_X8_isThing
set_option maxRecDepth 20000 in
theorem ggX8_knowsThat_X6_isHeardBy : GoodIn wsX8_knowsThat wsX6_isHeardBy := goodIn_r _ [22, 23, 24, 25, 26, 27, 21, 28, 29, 30, 31, 32, 33, 34, 35, 36, 37, 38, 39, 59, 60, 61, 62, 63, 64, 65, 66, 67, 68, 69] (by decide +kernel) (by decide +kernel)
set_option maxRecDepth 20000 in
theorem gX8_knowsThat_X6_isHeardBy : GoodIn wsX8_knowsThat (wsV RX8 186 RX6 yX6_isHeardBy wsX6_isHeardBy) := goodIn_app (goodIn_of _ (by decide +kernel)) ggX8_knowsThat_X6_isHeardBy
set_option maxRecDepth 20000 in
theorem ggX8_knowsThat_X1_showed : GoodIn wsX8_knowsThat wsX1_showed := goodIn_r _ [44, 45, 46, 70, 71, 72, 73, 74, 75] (by decide +kernel) (by decide +kernel)
set_option maxRecDepth 20000 in
theorem gX8_knowsThat_X1_showed : GoodIn wsX8_knowsThat (wsV RX8 304 RX1 yX1_showed wsX1_showed) := goodIn_app (goodIn_of _ (by decide +kernel)) ggX8_knowsThat_X1_showed
theorem dX8_knowsThat_0 : decode cX8_knowsThat 0 = .ok (.aload_n 0, 1) := by decide +kernel
theorem dX8_knowsThat_1 : decode cX8_knowsThat 1 = .ok (.iload_n 1, 1) := by decide +kernel
theorem dX8_knowsThat_2 : decode cX8_knowsThat 2 = .ok (.iload_n 2, 1) := by decide +kernel
theorem dX8_knowsThat_3 : decode cX8_knowsThat 3 = .ok (.invokevirtual 180, 3) := by decide +kernel
theorem dX8_knowsThat_6 : decode cX8_knowsThat 6 = .ok (.ifCond .eq 10, 3) := by decide +kernel
theorem dX8_knowsThat_9 : decode cX8_knowsThat 9 = .ok (.iload_n 3, 1) := by decide +kernel
theorem dX8_knowsThat_10 : decode cX8_knowsThat 10 = .ok (.invokestatic 278, 3) := by decide +kernel
theorem dX8_knowsThat_13 : decode cX8_knowsThat 13 = .ok (.ifCond .ne 5, 3) := by decide +kernel
theorem dX8_knowsThat_16 : decode cX8_knowsThat 16 = .ok (.iconst (-1), 1) := by decide +kernel
theorem dX8_knowsThat_17 : decode cX8_knowsThat 17 = .ok (.ireturn, 1) := by decide +kernel
theorem dX8_knowsThat_18 : decode cX8_knowsThat 18 = .ok (.aload_n 0, 1) := by decide +kernel
theorem dX8_knowsThat_19 : decode cX8_knowsThat 19 = .ok (.getfield 24, 3) := by decide +kernel
theorem dX8_knowsThat_22 : decode cX8_knowsThat 22 = .ok (.iload_n 1, 1) := by decide +kernel
theorem dX8_knowsThat_23 : decode cX8_knowsThat 23 = .ok (.iload_n 2, 1) := by decide +kernel
theorem dX8_knowsThat_24 : decode cX8_knowsThat 24 = .ok (.invokevirtual 186, 3) := by decide +kernel
theorem dX8_knowsThat_27 : decode cX8_knowsThat 27 = .ok (.istore 4, 2) := by decide +kernel
theorem dX8_knowsThat_29 : decode cX8_knowsThat 29 = .ok (.iconst 0, 1) := by decide +kernel
theorem dX8_knowsThat_30 : decode cX8_knowsThat 30 = .ok (.istore 5, 2) := by decide +kernel
theorem dX8_knowsThat_32 : decode cX8_knowsThat 32 = .ok (.iload 5, 2) := by decide +kernel
theorem dX8_knowsThat_34 : decode cX8_knowsThat 34 = .ok (.aload_n 0, 1) := by decide +kernel
theorem dX8_knowsThat_35 : decode cX8_knowsThat 35 = .ok (.getfield 24, 3) := by decide +kernel
theorem dX8_knowsThat_38 : decode cX8_knowsThat 38 = .ok (.getfield 281, 3) := by decide +kernel
theorem dX8_knowsThat_41 : decode cX8_knowsThat 41 = .ok (.getfield 293, 3) := by decide +kernel
theorem dX8_knowsThat_44 : decode cX8_knowsThat 44 = .ok (.if_icmp .ge 47, 3) := by decide +kernel
theorem dX8_knowsThat_47 : decode cX8_knowsThat 47 = .ok (.aload_n 0, 1) := by decide +kernel
theorem dX8_knowsThat_48 : decode cX8_knowsThat 48 = .ok (.getfield 24, 3) := by decide +kernel
theorem dX8_knowsThat_51 : decode cX8_knowsThat 51 = .ok (.getfield 281, 3) := by decide +kernel
theorem dX8_knowsThat_54 : decode cX8_knowsThat 54 = .ok (.getfield 301, 3) := by decide +kernel
theorem dX8_knowsThat_57 : decode cX8_knowsThat 57 = .ok (.iload 5, 2) := by decide +kernel
theorem dX8_knowsThat_59 : decode cX8_knowsThat 59 = .ok (.iaload, 1) := by decide +kernel
theorem dX8_knowsThat_60 : decode cX8_knowsThat 60 = .ok (.iload_n 3, 1) := by decide +kernel
theorem dX8_knowsThat_61 : decode cX8_knowsThat 61 = .ok (.if_icmp .ne 24, 3) := by decide +kernel
theorem dX8_knowsThat_64 : decode cX8_knowsThat 64 = .ok (.aload_n 0, 1) := by decide +kernel
theorem dX8_knowsThat_65 : decode cX8_knowsThat 65 = .ok (.getfield 24, 3) := by decide +kernel
theorem dX8_knowsThat_68 : decode cX8_knowsThat 68 = .ok (.getfield 281, 3) := by decide +kernel
theorem dX8_knowsThat_71 : decode cX8_knowsThat 71 = .ok (.iload 5, 2) := by decide +kernel
theorem dX8_knowsThat_73 : decode cX8_knowsThat 73 = .ok (.iload_n 1, 1) := by decide +kernel
theorem dX8_knowsThat_74 : decode cX8_knowsThat 74 = .ok (.iload_n 2, 1) := by decide +kernel
theorem dX8_knowsThat_75 : decode cX8_knowsThat 75 = .ok (.iload 4, 2) := by decide +kernel
theorem dX8_knowsThat_77 : decode cX8_knowsThat 77 = .ok (.invokevirtual 304, 3) := by decide +kernel
theorem dX8_knowsThat_80 : decode cX8_knowsThat 80 = .ok (.ifCond .eq 5, 3) := by decide +kernel
theorem dX8_knowsThat_83 : decode cX8_knowsThat 83 = .ok (.iconst 1, 1) := by decide +kernel
theorem dX8_knowsThat_84 : decode cX8_knowsThat 84 = .ok (.ireturn, 1) := by decide +kernel
theorem dX8_knowsThat_85 : decode cX8_knowsThat 85 = .ok (.iinc 5 1, 3) := by decide +kernel
theorem dX8_knowsThat_88 : decode cX8_knowsThat 88 = .ok (.goto (-56), 3) := by decide +kernel
theorem dX8_knowsThat_91 : decode cX8_knowsThat 91 = .ok (.iconst 0, 1) := by decide +kernel
theorem dX8_knowsThat_92 : decode cX8_knowsThat 92 = .ok (.ireturn, 1) := by decide +kernel
set_option maxRecDepth 20000 in
theorem ggX8_spread_X8_isThing : GoodIn wsX8_spread wsX8_isThing := goodIn_r _ [7] (by decide +kernel) (by decide +kernel)
set_option maxRecDepth 20000 in
theorem gX8_spread_X8_isThing : GoodIn wsX8_spread (va_wsS RX8 278 yX8_isThing wsX8_isThing) := goodIn_app (goodIn_of _ (by decide +kernel)) ggX8_spread_X8_isThing
set_option maxRecDepth 20000 in
theorem ggX8_spread_X1_whoKnow : GoodIn wsX8_spread wsX1_whoKnow := goodIn_r _ [12, 13, 76, 77, 78, 79, 80, 81] (by decide +kernel) (by decide +kernel)
set_option maxRecDepth 20000 in
theorem gX8_spread_X1_whoKnow : GoodIn wsX8_spread (wsV RX8 290 RX1 yX1_whoKnow wsX1_whoKnow) := goodIn_app (goodIn_of _ (by decide +kernel)) ggX8_spread_X1_whoKnow
set_option maxRecDepth 20000 in
theorem ggX8_spread_X6_whoHear : GoodIn wsX8_spread wsX6_whoHear := goodIn_r _ [18, 19, 20, 21, 17, 22, 23, 24, 25, 26, 27, 28, 29, 30, 31, 32, 33, 34, 35, 36, 37, 38, 39, 40, 41, 42, 43, 44, 45, 46, 47, 48, 49, 50, 51, 52, 65, 66, 67, 68, 69, 70, 71, 72, 73, 74, 75] (by decide +kernel) (by decide +kernel)
set_option maxRecDepth 20000 in
theorem gX8_spread_X6_whoHear : GoodIn wsX8_spread (wsV RX8 148 RX6 yX6_whoHear wsX6_whoHear) := goodIn_app (goodIn_of _ (by decide +kernel)) ggX8_spread_X6_whoHear
theorem dX8_spread_0 : decode cX8_spread 0 = .ok (.iload_n 1, 1) := by decide +kernel
theorem dX8_spread_1 : decode cX8_spread 1 = .ok (.invokestatic 278, 3) := by decide +kernel
theorem dX8_spread_4 : decode cX8_spread 4 = .ok (.ifCond .eq 13, 3) := by decide +kernel
theorem dX8_spread_7 : decode cX8_spread 7 = .ok (.iload_n 2, 1) := by decide +kernel
theorem dX8_spread_8 : decode cX8_spread 8 = .ok (.ifCond .lt 9, 3) := by decide +kernel
theorem dX8_spread_11 : decode cX8_spread 11 = .ok (.iload_n 2, 1) := by decide +kernel
theorem dX8_spread_12 : decode cX8_spread 12 = .ok (.bipush 20, 2) := by decide +kernel
theorem dX8_spread_14 : decode cX8_spread 14 = .ok (.if_icmp .le 5, 3) := by decide +kernel
theorem dX8_spread_17 : decode cX8_spread 17 = .ok (.iconst (-1), 1) := by decide +kernel
theorem dX8_spread_18 : decode cX8_spread 18 = .ok (.ireturn, 1) := by decide +kernel
theorem dX8_spread_19 : decode cX8_spread 19 = .ok (.aload_n 0, 1) := by decide +kernel
theorem dX8_spread_20 : decode cX8_spread 20 = .ok (.getfield 24, 3) := by decide +kernel
theorem dX8_spread_23 : decode cX8_spread 23 = .ok (.getfield 281, 3) := by decide +kernel
theorem dX8_spread_26 : decode cX8_spread 26 = .ok (.iload_n 1, 1) := by decide +kernel
theorem dX8_spread_27 : decode cX8_spread 27 = .ok (.invokevirtual 290, 3) := by decide +kernel
theorem dX8_spread_30 : decode cX8_spread 30 = .ok (.istore_n 3, 1) := by decide +kernel
theorem dX8_spread_31 : decode cX8_spread 31 = .ok (.iconst 0, 1) := by decide +kernel
theorem dX8_spread_32 : decode cX8_spread 32 = .ok (.istore 4, 2) := by decide +kernel
theorem dX8_spread_34 : decode cX8_spread 34 = .ok (.iload 4, 2) := by decide +kernel
theorem dX8_spread_36 : decode cX8_spread 36 = .ok (.iload_n 2, 1) := by decide +kernel
theorem dX8_spread_37 : decode cX8_spread 37 = .ok (.if_icmp .ge 56, 3) := by decide +kernel
theorem dX8_spread_40 : decode cX8_spread 40 = .ok (.iload_n 3, 1) := by decide +kernel
theorem dX8_spread_41 : decode cX8_spread 41 = .ok (.istore 5, 2) := by decide +kernel
theorem dX8_spread_43 : decode cX8_spread 43 = .ok (.iconst 0, 1) := by decide +kernel
theorem dX8_spread_44 : decode cX8_spread 44 = .ok (.istore 6, 2) := by decide +kernel
theorem dX8_spread_46 : decode cX8_spread 46 = .ok (.iload 6, 2) := by decide +kernel
theorem dX8_spread_48 : decode cX8_spread 48 = .ok (.aload_n 0, 1) := by decide +kernel
theorem dX8_spread_49 : decode cX8_spread 49 = .ok (.getfield 24, 3) := by decide +kernel
theorem dX8_spread_52 : decode cX8_spread 52 = .ok (.getfield 131, 3) := by decide +kernel
theorem dX8_spread_55 : decode cX8_spread 55 = .ok (.if_icmp .ge 32, 3) := by decide +kernel
theorem dX8_spread_58 : decode cX8_spread 58 = .ok (.iload 5, 2) := by decide +kernel
theorem dX8_spread_60 : decode cX8_spread 60 = .ok (.iload 6, 2) := by decide +kernel
theorem dX8_spread_62 : decode cX8_spread 62 = .ok (.ishr, 1) := by decide +kernel
theorem dX8_spread_63 : decode cX8_spread 63 = .ok (.iconst 1, 1) := by decide +kernel
theorem dX8_spread_64 : decode cX8_spread 64 = .ok (.iand, 1) := by decide +kernel
theorem dX8_spread_65 : decode cX8_spread 65 = .ok (.ifCond .eq 16, 3) := by decide +kernel
theorem dX8_spread_68 : decode cX8_spread 68 = .ok (.iload_n 3, 1) := by decide +kernel
theorem dX8_spread_69 : decode cX8_spread 69 = .ok (.aload_n 0, 1) := by decide +kernel
theorem dX8_spread_70 : decode cX8_spread 70 = .ok (.getfield 24, 3) := by decide +kernel
theorem dX8_spread_73 : decode cX8_spread 73 = .ok (.iload 6, 2) := by decide +kernel
theorem dX8_spread_75 : decode cX8_spread 75 = .ok (.iconst 0, 1) := by decide +kernel
theorem dX8_spread_76 : decode cX8_spread 76 = .ok (.invokevirtual 148, 3) := by decide +kernel
theorem dX8_spread_79 : decode cX8_spread 79 = .ok (.ior, 1) := by decide +kernel
theorem dX8_spread_80 : decode cX8_spread 80 = .ok (.istore_n 3, 1) := by decide +kernel
theorem dX8_spread_81 : decode cX8_spread 81 = .ok (.iinc 6 1, 3) := by decide +kernel
theorem dX8_spread_84 : decode cX8_spread 84 = .ok (.goto (-38), 3) := by decide +kernel
theorem dX8_spread_87 : decode cX8_spread 87 = .ok (.iinc 4 1, 3) := by decide +kernel
theorem dX8_spread_90 : decode cX8_spread 90 = .ok (.goto (-56), 3) := by decide +kernel
theorem dX8_spread_93 : decode cX8_spread 93 = .ok (.iload_n 3, 1) := by decide +kernel
theorem dX8_spread_94 : decode cX8_spread 94 = .ok (.ireturn, 1) := by decide +kernel
set_option maxRecDepth 20000 in
theorem ggX8_leak_X8_isSet : GoodIn wsX8_leak wsX8_isSet := goodIn_r _ [7, 1, 8, 9, 10, 11, 12, 13, 52, 53, 54, 55, 56, 57, 58, 59, 60, 61, 62, 63, 64, 65, 66, 67, 68, 69, 70, 71, 72, 73, 74] (by decide +kernel) (by decide +kernel)
set_option maxRecDepth 20000 in
theorem gX8_leak_X8_isSet : GoodIn wsX8_leak (wsV RX8 189 RX8 yX8_isSet wsX8_isSet) := goodIn_app (goodIn_of _ (by decide +kernel)) ggX8_leak_X8_isSet
set_option maxRecDepth 20000 in
theorem ggX8_leak_X6_circleOf : GoodIn wsX8_leak wsX6_circleOf := goodIn_r _ [17, 18, 19, 20, 11, 21, 22, 9, 10, 12, 13, 23, 24, 25, 26, 27, 28, 29, 30, 31, 32, 33, 34, 35, 36, 37, 38, 39, 40, 41, 42, 43, 44, 45, 46, 47, 48, 49, 50, 51, 64, 65, 66, 67, 68, 69, 70, 71, 72, 73, 74] (by decide +kernel) (by decide +kernel)
set_option maxRecDepth 20000 in
theorem gX8_leak_X6_circleOf : GoodIn wsX8_leak (wsV RX8 308 RX6 yX6_circleOf wsX6_circleOf) := goodIn_app (goodIn_of _ (by decide +kernel)) ggX8_leak_X6_circleOf
theorem dX8_leak_0 : decode cX8_leak 0 = .ok (.aload_n 0, 1) := by decide +kernel
theorem dX8_leak_1 : decode cX8_leak 1 = .ok (.iload_n 1, 1) := by decide +kernel
theorem dX8_leak_2 : decode cX8_leak 2 = .ok (.invokevirtual 189, 3) := by decide +kernel
theorem dX8_leak_5 : decode cX8_leak 5 = .ok (.ifCond .ne 5, 3) := by decide +kernel
theorem dX8_leak_8 : decode cX8_leak 8 = .ok (.iconst (-1), 1) := by decide +kernel
theorem dX8_leak_9 : decode cX8_leak 9 = .ok (.ireturn, 1) := by decide +kernel
theorem dX8_leak_10 : decode cX8_leak 10 = .ok (.iconst 0, 1) := by decide +kernel
theorem dX8_leak_11 : decode cX8_leak 11 = .ok (.istore_n 2, 1) := by decide +kernel
theorem dX8_leak_12 : decode cX8_leak 12 = .ok (.iconst 0, 1) := by decide +kernel
theorem dX8_leak_13 : decode cX8_leak 13 = .ok (.istore_n 3, 1) := by decide +kernel
theorem dX8_leak_14 : decode cX8_leak 14 = .ok (.iload_n 3, 1) := by decide +kernel
theorem dX8_leak_15 : decode cX8_leak 15 = .ok (.aload_n 0, 1) := by decide +kernel
theorem dX8_leak_16 : decode cX8_leak 16 = .ok (.getfield 24, 3) := by decide +kernel
theorem dX8_leak_19 : decode cX8_leak 19 = .ok (.getfield 131, 3) := by decide +kernel
theorem dX8_leak_22 : decode cX8_leak 22 = .ok (.if_icmp .ge 27, 3) := by decide +kernel
theorem dX8_leak_25 : decode cX8_leak 25 = .ok (.aload_n 0, 1) := by decide +kernel
theorem dX8_leak_26 : decode cX8_leak 26 = .ok (.getfield 24, 3) := by decide +kernel
theorem dX8_leak_29 : decode cX8_leak 29 = .ok (.iload_n 3, 1) := by decide +kernel
theorem dX8_leak_30 : decode cX8_leak 30 = .ok (.invokevirtual 308, 3) := by decide +kernel
theorem dX8_leak_33 : decode cX8_leak 33 = .ok (.iload_n 1, 1) := by decide +kernel
theorem dX8_leak_34 : decode cX8_leak 34 = .ok (.if_icmp .ne 9, 3) := by decide +kernel
theorem dX8_leak_37 : decode cX8_leak 37 = .ok (.iload_n 2, 1) := by decide +kernel
theorem dX8_leak_38 : decode cX8_leak 38 = .ok (.iconst 1, 1) := by decide +kernel
theorem dX8_leak_39 : decode cX8_leak 39 = .ok (.iload_n 3, 1) := by decide +kernel
theorem dX8_leak_40 : decode cX8_leak 40 = .ok (.ishl, 1) := by decide +kernel
theorem dX8_leak_41 : decode cX8_leak 41 = .ok (.ior, 1) := by decide +kernel
theorem dX8_leak_42 : decode cX8_leak 42 = .ok (.istore_n 2, 1) := by decide +kernel
theorem dX8_leak_43 : decode cX8_leak 43 = .ok (.iinc 3 1, 3) := by decide +kernel
theorem dX8_leak_46 : decode cX8_leak 46 = .ok (.goto (-32), 3) := by decide +kernel
theorem dX8_leak_49 : decode cX8_leak 49 = .ok (.iload_n 2, 1) := by decide +kernel
theorem dX8_leak_50 : decode cX8_leak 50 = .ok (.ireturn, 1) := by decide +kernel
set_option maxRecDepth 20000 in
theorem ggX8_leaks_X8_isSet : GoodIn wsX8_leaks wsX8_isSet := goodIn_r _ [7, 1, 8, 9, 10, 11, 12, 13, 52, 53, 54, 55, 56, 57, 58, 59, 60, 61, 62, 63, 64, 65, 66, 67, 68, 69, 70, 71, 72, 73, 74] (by decide +kernel) (by decide +kernel)
set_option maxRecDepth 20000 in
theorem gX8_leaks_X8_isSet : GoodIn wsX8_leaks (wsV RX8 189 RX8 yX8_isSet wsX8_isSet) := goodIn_app (goodIn_of _ (by decide +kernel)) ggX8_leaks_X8_isSet
set_option maxRecDepth 20000 in
theorem ggX8_leaks_X6_circleOf : GoodIn wsX8_leaks wsX6_circleOf := goodIn_r _ [17, 18, 19, 20, 11, 21, 22, 9, 10, 12, 13, 23, 24, 25, 26, 27, 28, 29, 30, 31, 32, 33, 34, 35, 36, 37, 38, 39, 40, 41, 42, 43, 44, 45, 46, 47, 48, 49, 50, 51, 64, 65, 66, 67, 68, 69, 70, 71, 72, 73, 74] (by decide +kernel) (by decide +kernel)
set_option maxRecDepth 20000 in
theorem gX8_leaks_X6_circleOf : GoodIn wsX8_leaks (wsV RX8 308 RX6 yX6_circleOf wsX6_circleOf) := goodIn_app (goodIn_of _ (by decide +kernel)) ggX8_leaks_X6_circleOf
theorem dX8_leaks_0 : decode cX8_leaks 0 = .ok (.aload_n 0, 1) := by decide +kernel
theorem dX8_leaks_1 : decode cX8_leaks 1 = .ok (.iload_n 1, 1) := by decide +kernel
theorem dX8_leaks_2 : decode cX8_leaks 2 = .ok (.invokevirtual 189, 3) := by decide +kernel
theorem dX8_leaks_5 : decode cX8_leaks 5 = .ok (.ifCond .ne 5, 3) := by decide +kernel
theorem dX8_leaks_8 : decode cX8_leaks 8 = .ok (.iconst (-1), 1) := by decide +kernel
theorem dX8_leaks_9 : decode cX8_leaks 9 = .ok (.ireturn, 1) := by decide +kernel
theorem dX8_leaks_10 : decode cX8_leaks 10 = .ok (.iconst 0, 1) := by decide +kernel
theorem dX8_leaks_11 : decode cX8_leaks 11 = .ok (.istore_n 2, 1) := by decide +kernel
theorem dX8_leaks_12 : decode cX8_leaks 12 = .ok (.iconst 0, 1) := by decide +kernel
theorem dX8_leaks_13 : decode cX8_leaks 13 = .ok (.istore_n 3, 1) := by decide +kernel
theorem dX8_leaks_14 : decode cX8_leaks 14 = .ok (.iload_n 3, 1) := by decide +kernel
theorem dX8_leaks_15 : decode cX8_leaks 15 = .ok (.aload_n 0, 1) := by decide +kernel
theorem dX8_leaks_16 : decode cX8_leaks 16 = .ok (.getfield 24, 3) := by decide +kernel
theorem dX8_leaks_19 : decode cX8_leaks 19 = .ok (.getfield 131, 3) := by decide +kernel
theorem dX8_leaks_22 : decode cX8_leaks 22 = .ok (.if_icmp .ge 69, 3) := by decide +kernel
theorem dX8_leaks_25 : decode cX8_leaks 25 = .ok (.aload_n 0, 1) := by decide +kernel
theorem dX8_leaks_26 : decode cX8_leaks 26 = .ok (.getfield 24, 3) := by decide +kernel
theorem dX8_leaks_29 : decode cX8_leaks 29 = .ok (.iload_n 3, 1) := by decide +kernel
theorem dX8_leaks_30 : decode cX8_leaks 30 = .ok (.invokevirtual 308, 3) := by decide +kernel
theorem dX8_leaks_33 : decode cX8_leaks 33 = .ok (.istore 4, 2) := by decide +kernel
theorem dX8_leaks_35 : decode cX8_leaks 35 = .ok (.iconst 0, 1) := by decide +kernel
theorem dX8_leaks_36 : decode cX8_leaks 36 = .ok (.istore 5, 2) := by decide +kernel
theorem dX8_leaks_38 : decode cX8_leaks 38 = .ok (.iload 5, 2) := by decide +kernel
theorem dX8_leaks_40 : decode cX8_leaks 40 = .ok (.aload_n 0, 1) := by decide +kernel
theorem dX8_leaks_41 : decode cX8_leaks 41 = .ok (.getfield 24, 3) := by decide +kernel
theorem dX8_leaks_44 : decode cX8_leaks 44 = .ok (.getfield 131, 3) := by decide +kernel
theorem dX8_leaks_47 : decode cX8_leaks 47 = .ok (.if_icmp .ge 38, 3) := by decide +kernel
theorem dX8_leaks_50 : decode cX8_leaks 50 = .ok (.iload 4, 2) := by decide +kernel
theorem dX8_leaks_52 : decode cX8_leaks 52 = .ok (.iload 5, 2) := by decide +kernel
theorem dX8_leaks_54 : decode cX8_leaks 54 = .ok (.ishr, 1) := by decide +kernel
theorem dX8_leaks_55 : decode cX8_leaks 55 = .ok (.iconst 1, 1) := by decide +kernel
theorem dX8_leaks_56 : decode cX8_leaks 56 = .ok (.iand, 1) := by decide +kernel
theorem dX8_leaks_57 : decode cX8_leaks 57 = .ok (.ifCond .eq 22, 3) := by decide +kernel
theorem dX8_leaks_60 : decode cX8_leaks 60 = .ok (.iload 4, 2) := by decide +kernel
theorem dX8_leaks_62 : decode cX8_leaks 62 = .ok (.aload_n 0, 1) := by decide +kernel
theorem dX8_leaks_63 : decode cX8_leaks 63 = .ok (.getfield 24, 3) := by decide +kernel
theorem dX8_leaks_66 : decode cX8_leaks 66 = .ok (.iload 5, 2) := by decide +kernel
theorem dX8_leaks_68 : decode cX8_leaks 68 = .ok (.invokevirtual 308, 3) := by decide +kernel
theorem dX8_leaks_71 : decode cX8_leaks 71 = .ok (.ior, 1) := by decide +kernel
theorem dX8_leaks_72 : decode cX8_leaks 72 = .ok (.iload_n 1, 1) := by decide +kernel
theorem dX8_leaks_73 : decode cX8_leaks 73 = .ok (.if_icmp .ne 6, 3) := by decide +kernel
theorem dX8_leaks_76 : decode cX8_leaks 76 = .ok (.iinc 2 1, 3) := by decide +kernel
theorem dX8_leaks_79 : decode cX8_leaks 79 = .ok (.iinc 5 1, 3) := by decide +kernel
theorem dX8_leaks_82 : decode cX8_leaks 82 = .ok (.goto (-44), 3) := by decide +kernel
theorem dX8_leaks_85 : decode cX8_leaks 85 = .ok (.iinc 3 1, 3) := by decide +kernel
theorem dX8_leaks_88 : decode cX8_leaks 88 = .ok (.goto (-74), 3) := by decide +kernel
theorem dX8_leaks_91 : decode cX8_leaks 91 = .ok (.iload_n 2, 1) := by decide +kernel
theorem dX8_leaks_92 : decode cX8_leaks 92 = .ok (.ireturn, 1) := by decide +kernel
set_option maxRecDepth 20000 in
theorem ggX8_keep_X8_isPlace : GoodIn wsX8_keep wsX8_isPlace := goodIn_r _ [10] (by decide +kernel) (by decide +kernel)
set_option maxRecDepth 20000 in
theorem gX8_keep_X8_isPlace : GoodIn wsX8_keep (va_wsS RX8 311 yX8_isPlace wsX8_isPlace) := goodIn_app (goodIn_of _ (by decide +kernel)) ggX8_keep_X8_isPlace
set_option maxRecDepth 20000 in
theorem ggX8_keep_X6_become : GoodIn wsX8_keep wsX6_become := goodIn_r _ [15, 16, 17, 18, 19, 20, 21, 22, 23, 24, 25, 26, 27, 28, 29, 30, 31, 32, 33, 34, 35, 36, 37, 38, 39, 40, 41, 42, 55, 56, 57, 58, 59, 60, 61, 62, 63, 64, 65, 66, 67, 68, 69, 70, 71] (by decide +kernel) (by decide +kernel)
set_option maxRecDepth 20000 in
theorem gX8_keep_X6_become : GoodIn wsX8_keep (wsV RX8 127 RX6 yX6_become wsX6_become) := goodIn_app (goodIn_of _ (by decide +kernel)) ggX8_keep_X6_become
theorem dX8_keep_0 : decode cX8_keep 0 = .ok (.iload_n 1, 1) := by decide +kernel
theorem dX8_keep_1 : decode cX8_keep 1 = .ok (.invokestatic 311, 3) := by decide +kernel
theorem dX8_keep_4 : decode cX8_keep 4 = .ok (.ifCond .ne 5, 3) := by decide +kernel
theorem dX8_keep_7 : decode cX8_keep 7 = .ok (.iconst (-1), 1) := by decide +kernel
theorem dX8_keep_8 : decode cX8_keep 8 = .ok (.ireturn, 1) := by decide +kernel
theorem dX8_keep_9 : decode cX8_keep 9 = .ok (.aload_n 0, 1) := by decide +kernel
theorem dX8_keep_10 : decode cX8_keep 10 = .ok (.getfield 24, 3) := by decide +kernel
theorem dX8_keep_13 : decode cX8_keep 13 = .ok (.getfield 131, 3) := by decide +kernel
theorem dX8_keep_16 : decode cX8_keep 16 = .ok (.ifCond .ne 6, 3) := by decide +kernel
theorem dX8_keep_19 : decode cX8_keep 19 = .ok (.bipush (-4), 2) := by decide +kernel
theorem dX8_keep_21 : decode cX8_keep 21 = .ok (.ireturn, 1) := by decide +kernel
theorem dX8_keep_22 : decode cX8_keep 22 = .ok (.aload_n 0, 1) := by decide +kernel
theorem dX8_keep_23 : decode cX8_keep 23 = .ok (.getfield 31, 3) := by decide +kernel
theorem dX8_keep_26 : decode cX8_keep 26 = .ok (.iload_n 1, 1) := by decide +kernel
theorem dX8_keep_27 : decode cX8_keep 27 = .ok (.aaload, 1) := by decide +kernel
theorem dX8_keep_28 : decode cX8_keep 28 = .ok (.aload_n 0, 1) := by decide +kernel
theorem dX8_keep_29 : decode cX8_keep 29 = .ok (.getfield 24, 3) := by decide +kernel
theorem dX8_keep_32 : decode cX8_keep 32 = .ok (.invokevirtual 127, 3) := by decide +kernel
theorem dX8_keep_35 : decode cX8_keep 35 = .ok (.aload_n 0, 1) := by decide +kernel
theorem dX8_keep_36 : decode cX8_keep 36 = .ok (.getfield 35, 3) := by decide +kernel
theorem dX8_keep_39 : decode cX8_keep 39 = .ok (.iload_n 1, 1) := by decide +kernel
theorem dX8_keep_40 : decode cX8_keep 40 = .ok (.iconst 1, 1) := by decide +kernel
theorem dX8_keep_41 : decode cX8_keep 41 = .ok (.bastore, 1) := by decide +kernel
theorem dX8_keep_42 : decode cX8_keep 42 = .ok (.aload_n 0, 1) := by decide +kernel
theorem dX8_keep_43 : decode cX8_keep 43 = .ok (.getfield 24, 3) := by decide +kernel
theorem dX8_keep_46 : decode cX8_keep 46 = .ok (.getfield 281, 3) := by decide +kernel
theorem dX8_keep_49 : decode cX8_keep 49 = .ok (.getfield 293, 3) := by decide +kernel
theorem dX8_keep_52 : decode cX8_keep 52 = .ok (.ireturn, 1) := by decide +kernel
set_option maxRecDepth 20000 in
theorem ggX8_on_X8_isPlace : GoodIn wsX8_on wsX8_isPlace := goodIn_r _ [9] (by decide +kernel) (by decide +kernel)
set_option maxRecDepth 20000 in
theorem gX8_on_X8_isPlace : GoodIn wsX8_on (va_wsS RX8 311 yX8_isPlace wsX8_isPlace) := goodIn_app (goodIn_of _ (by decide +kernel)) ggX8_on_X8_isPlace
set_option maxRecDepth 20000 in
theorem ggX8_on_X8_find : GoodIn wsX8_on wsX8_find := goodIn_r _ [13, 14, 15, 48, 49, 50, 51, 52, 53, 54, 55, 56, 57, 58, 59] (by decide +kernel) (by decide +kernel)
set_option maxRecDepth 20000 in
theorem gX8_on_X8_find : GoodIn wsX8_on (wsV RX8 70 RX8 yX8_find wsX8_find) := goodIn_app (goodIn_of _ (by decide +kernel)) ggX8_on_X8_find
set_option maxRecDepth 20000 in
theorem ggX8_on_X6_become : GoodIn wsX8_on wsX6_become := goodIn_r _ [20, 21, 22, 23, 24, 25, 26, 27, 28, 29, 30, 31, 32, 33, 34, 35, 36, 37, 38, 39, 40, 41, 42, 43, 44, 45, 46, 47, 60, 61, 62, 63, 64, 65, 66, 67, 68, 69, 70, 71, 72, 73, 74, 75, 76] (by decide +kernel) (by decide +kernel)
set_option maxRecDepth 20000 in
theorem gX8_on_X6_become : GoodIn wsX8_on (wsV RX8 127 RX6 yX6_become wsX6_become) := goodIn_app (goodIn_of _ (by decide +kernel)) ggX8_on_X6_become
theorem dX8_on_0 : decode cX8_on 0 = .ok (.iload_n 1, 1) := by decide +kernel
theorem dX8_on_1 : decode cX8_on 1 = .ok (.invokestatic 311, 3) := by decide +kernel
theorem dX8_on_4 : decode cX8_on 4 = .ok (.ifCond .ne 5, 3) := by decide +kernel
theorem dX8_on_7 : decode cX8_on 7 = .ok (.iconst (-1), 1) := by decide +kernel
theorem dX8_on_8 : decode cX8_on 8 = .ok (.ireturn, 1) := by decide +kernel
theorem dX8_on_9 : decode cX8_on 9 = .ok (.aload_n 0, 1) := by decide +kernel
theorem dX8_on_10 : decode cX8_on 10 = .ok (.getfield 35, 3) := by decide +kernel
theorem dX8_on_13 : decode cX8_on 13 = .ok (.iload_n 1, 1) := by decide +kernel
theorem dX8_on_14 : decode cX8_on 14 = .ok (.baload, 1) := by decide +kernel
theorem dX8_on_15 : decode cX8_on 15 = .ok (.ifCond .ne 9, 3) := by decide +kernel
theorem dX8_on_18 : decode cX8_on 18 = .ok (.aload_n 0, 1) := by decide +kernel
theorem dX8_on_19 : decode cX8_on 19 = .ok (.iconst 1, 1) := by decide +kernel
theorem dX8_on_20 : decode cX8_on 20 = .ok (.invokevirtual 70, 3) := by decide +kernel
theorem dX8_on_23 : decode cX8_on 23 = .ok (.ireturn, 1) := by decide +kernel
theorem dX8_on_24 : decode cX8_on 24 = .ok (.aload_n 0, 1) := by decide +kernel
theorem dX8_on_25 : decode cX8_on 25 = .ok (.getfield 24, 3) := by decide +kernel
theorem dX8_on_28 : decode cX8_on 28 = .ok (.aload_n 0, 1) := by decide +kernel
theorem dX8_on_29 : decode cX8_on 29 = .ok (.getfield 31, 3) := by decide +kernel
theorem dX8_on_32 : decode cX8_on 32 = .ok (.iload_n 1, 1) := by decide +kernel
theorem dX8_on_33 : decode cX8_on 33 = .ok (.aaload, 1) := by decide +kernel
theorem dX8_on_34 : decode cX8_on 34 = .ok (.invokevirtual 127, 3) := by decide +kernel
theorem dX8_on_37 : decode cX8_on 37 = .ok (.aload_n 0, 1) := by decide +kernel
theorem dX8_on_38 : decode cX8_on 38 = .ok (.getfield 24, 3) := by decide +kernel
theorem dX8_on_41 : decode cX8_on 41 = .ok (.getfield 281, 3) := by decide +kernel
theorem dX8_on_44 : decode cX8_on 44 = .ok (.getfield 293, 3) := by decide +kernel
theorem dX8_on_47 : decode cX8_on 47 = .ok (.ireturn, 1) := by decide +kernel
set_option maxRecDepth 20000 in
theorem ggX8_nights_X8_find : GoodIn wsX8_nights wsX8_find := goodIn_r _ [12, 13, 14, 65, 66, 67, 68, 69, 70, 71, 72, 73, 74, 75, 76] (by decide +kernel) (by decide +kernel)
set_option maxRecDepth 20000 in
theorem gX8_nights_X8_find : GoodIn wsX8_nights (wsV RX8 70 RX8 yX8_find wsX8_find) := goodIn_app (goodIn_of _ (by decide +kernel)) ggX8_nights_X8_find
set_option maxRecDepth 20000 in
theorem ggX8_nights_X6_isSafe : GoodIn wsX8_nights wsX6_isSafe := goodIn_r _ [19, 20, 21, 22, 18, 23, 24, 25, 26, 27, 28, 29, 30, 31, 32, 33, 34, 35, 36, 37, 38, 39, 40, 41, 42, 43, 44, 45, 46, 47, 48, 49, 50, 51, 52, 53, 54, 55, 56, 57, 58, 59, 60, 61, 62, 63, 64, 77, 78, 79, 80, 81, 82, 83, 84, 85, 86, 87] (by decide +kernel) (by decide +kernel)
set_option maxRecDepth 20000 in
theorem gX8_nights_X6_isSafe : GoodIn wsX8_nights (wsV RX8 218 RX6 yX6_isSafe wsX6_isSafe) := goodIn_app (goodIn_of _ (by decide +kernel)) ggX8_nights_X6_isSafe
theorem dX8_nights_0 : decode cX8_nights 0 = .ok (.iload_n 1, 1) := by decide +kernel
theorem dX8_nights_1 : decode cX8_nights 1 = .ok (.ifCond .lt 26, 3) := by decide +kernel
theorem dX8_nights_4 : decode cX8_nights 4 = .ok (.iload_n 2, 1) := by decide +kernel
theorem dX8_nights_5 : decode cX8_nights 5 = .ok (.iconst 1, 1) := by decide +kernel
theorem dX8_nights_6 : decode cX8_nights 6 = .ok (.if_icmp .lt 21, 3) := by decide +kernel
theorem dX8_nights_9 : decode cX8_nights 9 = .ok (.iload_n 2, 1) := by decide +kernel
theorem dX8_nights_10 : decode cX8_nights 10 = .ok (.bipush 60, 2) := by decide +kernel
theorem dX8_nights_12 : decode cX8_nights 12 = .ok (.if_icmp .gt 15, 3) := by decide +kernel
theorem dX8_nights_15 : decode cX8_nights 15 = .ok (.iload_n 3, 1) := by decide +kernel
theorem dX8_nights_16 : decode cX8_nights 16 = .ok (.iconst 1, 1) := by decide +kernel
theorem dX8_nights_17 : decode cX8_nights 17 = .ok (.if_icmp .lt 10, 3) := by decide +kernel
