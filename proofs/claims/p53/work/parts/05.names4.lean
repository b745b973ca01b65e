set_option maxRecDepth 20000 in
theorem ggX8_comes_X1_whoKnow : GoodIn wsX8_comes wsX1_whoKnow := goodIn_r _ [21, 17, 52, 53, 54, 55, 56, 57] (by decide +kernel) (by decide +kernel)
set_option maxRecDepth 20000 in
theorem gX8_comes_X1_whoKnow : GoodIn wsX8_comes (wsV RX8 290 RX1 yX1_whoKnow wsX1_whoKnow) := goodIn_app (goodIn_of _ (by decide +kernel)) ggX8_comes_X1_whoKnow
set_option maxRecDepth 20000 in
theorem ggX8_comes_J6_bitCount_0f7a4 : GoodIn wsX8_comes wsJ6_bitCount_0f7a4 := goodIn_r _ [25, 26, 27, 28] (by decide +kernel) (by decide +kernel)
set_option maxRecDepth 20000 in
theorem gX8_comes_J6_bitCount_0f7a4 : GoodIn wsX8_comes (va_wsS RX8 151 yJ6_bitCount_0f7a4 wsJ6_bitCount_0f7a4) := goodIn_app (goodIn_of _ (by decide +kernel)) ggX8_comes_J6_bitCount_0f7a4
theorem dX8_comes_0 : decode cX8_comes 0 = .ok (.aload_n 0, 1) := by decide +kernel
theorem dX8_comes_1 : decode cX8_comes 1 = .ok (.iload_n 1, 1) := by decide +kernel
theorem dX8_comes_2 : decode cX8_comes 2 = .ok (.invokevirtual 134, 3) := by decide +kernel
theorem dX8_comes_5 : decode cX8_comes 5 = .ok (.ifCond .eq 10, 3) := by decide +kernel
theorem dX8_comes_8 : decode cX8_comes 8 = .ok (.iload_n 2, 1) := by decide +kernel
theorem dX8_comes_9 : decode cX8_comes 9 = .ok (.invokestatic 278, 3) := by decide +kernel
theorem dX8_comes_12 : decode cX8_comes 12 = .ok (.ifCond .ne 5, 3) := by decide +kernel
theorem dX8_comes_15 : decode cX8_comes 15 = .ok (.iconst (-1), 1) := by decide +kernel
theorem dX8_comes_16 : decode cX8_comes 16 = .ok (.ireturn, 1) := by decide +kernel
theorem dX8_comes_17 : decode cX8_comes 17 = .ok (.aload_n 0, 1) := by decide +kernel
theorem dX8_comes_18 : decode cX8_comes 18 = .ok (.getfield 24, 3) := by decide +kernel
theorem dX8_comes_21 : decode cX8_comes 21 = .ok (.getfield 281, 3) := by decide +kernel
theorem dX8_comes_24 : decode cX8_comes 24 = .ok (.iload_n 2, 1) := by decide +kernel
theorem dX8_comes_25 : decode cX8_comes 25 = .ok (.iconst 1, 1) := by decide +kernel
theorem dX8_comes_26 : decode cX8_comes 26 = .ok (.iload_n 1, 1) := by decide +kernel
theorem dX8_comes_27 : decode cX8_comes 27 = .ok (.ishl, 1) := by decide +kernel
theorem dX8_comes_28 : decode cX8_comes 28 = .ok (.invokevirtual 284, 3) := by decide +kernel
theorem dX8_comes_31 : decode cX8_comes 31 = .ok (.aload_n 0, 1) := by decide +kernel
theorem dX8_comes_32 : decode cX8_comes 32 = .ok (.getfield 24, 3) := by decide +kernel
theorem dX8_comes_35 : decode cX8_comes 35 = .ok (.getfield 281, 3) := by decide +kernel
theorem dX8_comes_38 : decode cX8_comes 38 = .ok (.iload_n 2, 1) := by decide +kernel
theorem dX8_comes_39 : decode cX8_comes 39 = .ok (.invokevirtual 290, 3) := by decide +kernel
theorem dX8_comes_42 : decode cX8_comes 42 = .ok (.invokestatic 151, 3) := by decide +kernel
theorem dX8_comes_45 : decode cX8_comes 45 = .ok (.ireturn, 1) := by decide +kernel
set_option maxRecDepth 20000 in
theorem ggX8_tell_X8_isOne : GoodIn wsX8_tell wsX8_isOne := goodIn_r _ [8, 1, 9, 71, 72, 73, 74, 75, 76, 77, 78, 79, 80, 81, 82, 83, 84, 85, 86, 87, 88, 89, 90, 91, 92, 93] (by decide +kernel) (by decide +kernel)
set_option maxRecDepth 20000 in
theorem gX8_tell_X8_isOne : GoodIn wsX8_tell (wsV RX8 134 RX8 yX8_isOne wsX8_isOne) := goodIn_app (goodIn_of _ (by decide +kernel)) ggX8_tell_X8_isOne
set_option maxRecDepth 20000 in
theorem ggX8_tell_X8_isThing : GoodIn wsX8_tell wsX8_isThing := goodIn_r _ [12] (by decide +kernel) (by decide +kernel)
set_option maxRecDepth 20000 in
theorem gX8_tell_X8_isThing : GoodIn wsX8_tell (va_wsS RX8 278 yX8_isThing wsX8_isThing) := goodIn_app (goodIn_of _ (by decide +kernel)) ggX8_tell_X8_isThing
set_option maxRecDepth 20000 in
theorem ggX8_tell_X1_whoKnow : GoodIn wsX8_tell wsX1_whoKnow := goodIn_r _ [17, 18, 94, 95, 96, 97, 98, 99] (by decide +kernel) (by decide +kernel)
set_option maxRecDepth 20000 in
theorem gX8_tell_X1_whoKnow : GoodIn wsX8_tell (wsV RX8 290 RX1 yX1_whoKnow wsX1_whoKnow) := goodIn_app (goodIn_of _ (by decide +kernel)) ggX8_tell_X1_whoKnow
set_option maxRecDepth 20000 in
theorem ggX8_tell_X6_whoHear : GoodIn wsX8_tell wsX6_whoHear := goodIn_r _ [23, 24, 25, 26, 22, 27, 28, 29, 30, 31, 32, 33, 34, 35, 36, 37, 38, 39, 40, 41, 42, 43, 44, 45, 46, 47, 48, 49, 50, 51, 52, 53, 54, 55, 56, 57, 83, 84, 85, 86, 87, 88, 89, 90, 91, 92, 93] (by decide +kernel) (by decide +kernel)
set_option maxRecDepth 20000 in
theorem gX8_tell_X6_whoHear : GoodIn wsX8_tell (wsV RX8 148 RX6 yX6_whoHear wsX6_whoHear) := goodIn_app (goodIn_of _ (by decide +kernel)) ggX8_tell_X6_whoHear
set_option maxRecDepth 20000 in
theorem ggX8_tell_X1_add : GoodIn wsX8_tell wsX1_add := goodIn_r _ [61, 62, 63, 64, 65, 66, 18, 67, 68, 69, 16, 70, 94, 95, 96, 97, 98, 99] (by decide +kernel) (by decide +kernel)
set_option maxRecDepth 20000 in
theorem gX8_tell_X1_add : GoodIn wsX8_tell (wsV RX8 294 RX1 yX1_add wsX1_add) := goodIn_app (goodIn_of _ (by decide +kernel)) ggX8_tell_X1_add
theorem dX8_tell_0 : decode cX8_tell 0 = .ok (.aload_n 0, 1) := by decide +kernel
theorem dX8_tell_1 : decode cX8_tell 1 = .ok (.iload_n 1, 1) := by decide +kernel
theorem dX8_tell_2 : decode cX8_tell 2 = .ok (.invokevirtual 134, 3) := by decide +kernel
theorem dX8_tell_5 : decode cX8_tell 5 = .ok (.ifCond .eq 10, 3) := by decide +kernel
theorem dX8_tell_8 : decode cX8_tell 8 = .ok (.iload_n 2, 1) := by decide +kernel
theorem dX8_tell_9 : decode cX8_tell 9 = .ok (.invokestatic 278, 3) := by decide +kernel
theorem dX8_tell_12 : decode cX8_tell 12 = .ok (.ifCond .ne 5, 3) := by decide +kernel
theorem dX8_tell_15 : decode cX8_tell 15 = .ok (.iconst (-1), 1) := by decide +kernel
theorem dX8_tell_16 : decode cX8_tell 16 = .ok (.ireturn, 1) := by decide +kernel
theorem dX8_tell_17 : decode cX8_tell 17 = .ok (.aload_n 0, 1) := by decide +kernel
theorem dX8_tell_18 : decode cX8_tell 18 = .ok (.getfield 24, 3) := by decide +kernel
theorem dX8_tell_21 : decode cX8_tell 21 = .ok (.getfield 281, 3) := by decide +kernel
theorem dX8_tell_24 : decode cX8_tell 24 = .ok (.iload_n 2, 1) := by decide +kernel
theorem dX8_tell_25 : decode cX8_tell 25 = .ok (.invokevirtual 290, 3) := by decide +kernel
theorem dX8_tell_28 : decode cX8_tell 28 = .ok (.iload_n 1, 1) := by decide +kernel
theorem dX8_tell_29 : decode cX8_tell 29 = .ok (.ishr, 1) := by decide +kernel
theorem dX8_tell_30 : decode cX8_tell 30 = .ok (.iconst 1, 1) := by decide +kernel
theorem dX8_tell_31 : decode cX8_tell 31 = .ok (.iand, 1) := by decide +kernel
theorem dX8_tell_32 : decode cX8_tell 32 = .ok (.ifCond .ne 6, 3) := by decide +kernel
theorem dX8_tell_35 : decode cX8_tell 35 = .ok (.bipush (-4), 2) := by decide +kernel
theorem dX8_tell_37 : decode cX8_tell 37 = .ok (.ireturn, 1) := by decide +kernel
theorem dX8_tell_38 : decode cX8_tell 38 = .ok (.aload_n 0, 1) := by decide +kernel
theorem dX8_tell_39 : decode cX8_tell 39 = .ok (.getfield 24, 3) := by decide +kernel
theorem dX8_tell_42 : decode cX8_tell 42 = .ok (.getfield 281, 3) := by decide +kernel
theorem dX8_tell_45 : decode cX8_tell 45 = .ok (.getfield 293, 3) := by decide +kernel
theorem dX8_tell_48 : decode cX8_tell 48 = .ok (.bipush 40, 2) := by decide +kernel
theorem dX8_tell_50 : decode cX8_tell 50 = .ok (.if_icmp .lt 6, 3) := by decide +kernel
theorem dX8_tell_53 : decode cX8_tell 53 = .ok (.bipush (-2), 2) := by decide +kernel
theorem dX8_tell_55 : decode cX8_tell 55 = .ok (.ireturn, 1) := by decide +kernel
theorem dX8_tell_56 : decode cX8_tell 56 = .ok (.aload_n 0, 1) := by decide +kernel
theorem dX8_tell_57 : decode cX8_tell 57 = .ok (.getfield 24, 3) := by decide +kernel
theorem dX8_tell_60 : decode cX8_tell 60 = .ok (.getfield 281, 3) := by decide +kernel
theorem dX8_tell_63 : decode cX8_tell 63 = .ok (.iload_n 1, 1) := by decide +kernel
theorem dX8_tell_64 : decode cX8_tell 64 = .ok (.iload_n 2, 1) := by decide +kernel
theorem dX8_tell_65 : decode cX8_tell 65 = .ok (.aload_n 0, 1) := by decide +kernel
theorem dX8_tell_66 : decode cX8_tell 66 = .ok (.getfield 24, 3) := by decide +kernel
theorem dX8_tell_69 : decode cX8_tell 69 = .ok (.iload_n 1, 1) := by decide +kernel
theorem dX8_tell_70 : decode cX8_tell 70 = .ok (.iconst 0, 1) := by decide +kernel
theorem dX8_tell_71 : decode cX8_tell 71 = .ok (.invokevirtual 148, 3) := by decide +kernel
theorem dX8_tell_74 : decode cX8_tell 74 = .ok (.invokevirtual 294, 3) := by decide +kernel
theorem dX8_tell_77 : decode cX8_tell 77 = .ok (.aload_n 0, 1) := by decide +kernel
theorem dX8_tell_78 : decode cX8_tell 78 = .ok (.getfield 24, 3) := by decide +kernel
theorem dX8_tell_81 : decode cX8_tell 81 = .ok (.getfield 281, 3) := by decide +kernel
theorem dX8_tell_84 : decode cX8_tell 84 = .ok (.iload_n 2, 1) := by decide +kernel
theorem dX8_tell_85 : decode cX8_tell 85 = .ok (.invokevirtual 290, 3) := by decide +kernel
theorem dX8_tell_88 : decode cX8_tell 88 = .ok (.ireturn, 1) := by decide +kernel
set_option maxRecDepth 20000 in
theorem ggX8_undo_X1_backTo : GoodIn wsX8_undo wsX1_backTo := goodIn_r _ [8, 9, 10, 11, 35, 36, 37, 38, 39, 40] (by decide +kernel) (by decide +kernel)
set_option maxRecDepth 20000 in
theorem gX8_undo_X1_backTo : GoodIn wsX8_undo (wsV RX8 298 RX1 yX1_backTo wsX1_backTo) := goodIn_app (goodIn_of _ (by decide +kernel)) ggX8_undo_X1_backTo
theorem dX8_undo_0 : decode cX8_undo 0 = .ok (.iload_n 1, 1) := by decide +kernel
theorem dX8_undo_1 : decode cX8_undo 1 = .ok (.ifCond .lt 17, 3) := by decide +kernel
theorem dX8_undo_4 : decode cX8_undo 4 = .ok (.iload_n 1, 1) := by decide +kernel
theorem dX8_undo_5 : decode cX8_undo 5 = .ok (.aload_n 0, 1) := by decide +kernel
theorem dX8_undo_6 : decode cX8_undo 6 = .ok (.getfield 24, 3) := by decide +kernel
theorem dX8_undo_9 : decode cX8_undo 9 = .ok (.getfield 281, 3) := by decide +kernel
theorem dX8_undo_12 : decode cX8_undo 12 = .ok (.getfield 293, 3) := by decide +kernel
theorem dX8_undo_15 : decode cX8_undo 15 = .ok (.if_icmp .le 5, 3) := by decide +kernel
theorem dX8_undo_18 : decode cX8_undo 18 = .ok (.iconst (-1), 1) := by decide +kernel
theorem dX8_undo_19 : decode cX8_undo 19 = .ok (.ireturn, 1) := by decide +kernel
theorem dX8_undo_20 : decode cX8_undo 20 = .ok (.aload_n 0, 1) := by decide +kernel
theorem dX8_undo_21 : decode cX8_undo 21 = .ok (.getfield 24, 3) := by decide +kernel
theorem dX8_undo_24 : decode cX8_undo 24 = .ok (.getfield 281, 3) := by decide +kernel
theorem dX8_undo_27 : decode cX8_undo 27 = .ok (.getfield 293, 3) := by decide +kernel
theorem dX8_undo_30 : decode cX8_undo 30 = .ok (.iload_n 1, 1) := by decide +kernel
theorem dX8_undo_31 : decode cX8_undo 31 = .ok (.isub, 1) := by decide +kernel
theorem dX8_undo_32 : decode cX8_undo 32 = .ok (.istore_n 2, 1) := by decide +kernel
theorem dX8_undo_33 : decode cX8_undo 33 = .ok (.aload_n 0, 1) := by decide +kernel
theorem dX8_undo_34 : decode cX8_undo 34 = .ok (.getfield 24, 3) := by decide +kernel
theorem dX8_undo_37 : decode cX8_undo 37 = .ok (.getfield 281, 3) := by decide +kernel
theorem dX8_undo_40 : decode cX8_undo 40 = .ok (.iload_n 1, 1) := by decide +kernel
theorem dX8_undo_41 : decode cX8_undo 41 = .ok (.invokevirtual 298, 3) := by decide +kernel
theorem dX8_undo_44 : decode cX8_undo 44 = .ok (.iload_n 2, 1) := by decide +kernel
theorem dX8_undo_45 : decode cX8_undo 45 = .ok (.ireturn, 1) := by decide +kernel
set_option maxRecDepth 20000 in
theorem ggX8_know_X8_isThing : GoodIn wsX8_know wsX8_isThing := goodIn_r _ [6] (by decide +kernel) (by decide +kernel)
set_option maxRecDepth 20000 in
theorem gX8_know_X8_isThing : GoodIn wsX8_know (va_wsS RX8 278 yX8_isThing wsX8_isThing) := goodIn_app (goodIn_of _ (by decide +kernel)) ggX8_know_X8_isThing
set_option maxRecDepth 20000 in
theorem ggX8_know_X1_whoKnow : GoodIn wsX8_know wsX1_whoKnow := goodIn_r _ [11, 12, 36, 37, 38, 39, 40, 41] (by decide +kernel) (by decide +kernel)
set_option maxRecDepth 20000 in
theorem gX8_know_X1_whoKnow : GoodIn wsX8_know (wsV RX8 290 RX1 yX1_whoKnow wsX1_whoKnow) := goodIn_app (goodIn_of _ (by decide +kernel)) ggX8_know_X1_whoKnow
theorem dX8_know_0 : decode cX8_know 0 = .ok (.iload_n 1, 1) := by decide +kernel
theorem dX8_know_1 : decode cX8_know 1 = .ok (.invokestatic 278, 3) := by decide +kernel
theorem dX8_know_4 : decode cX8_know 4 = .ok (.ifCond .ne 5, 3) := by decide +kernel
theorem dX8_know_7 : decode cX8_know 7 = .ok (.iconst (-1), 1) := by decide +kernel
theorem dX8_know_8 : decode cX8_know 8 = .ok (.ireturn, 1) := by decide +kernel
theorem dX8_know_9 : decode cX8_know 9 = .ok (.aload_n 0, 1) := by decide +kernel
theorem dX8_know_10 : decode cX8_know 10 = .ok (.getfield 24, 3) := by decide +kernel
theorem dX8_know_13 : decode cX8_know 13 = .ok (.getfield 281, 3) := by decide +kernel
theorem dX8_know_16 : decode cX8_know 16 = .ok (.iload_n 1, 1) := by decide +kernel
theorem dX8_know_17 : decode cX8_know 17 = .ok (.invokevirtual 290, 3) := by decide +kernel
theorem dX8_know_20 : decode cX8_know 20 = .ok (.ireturn, 1) := by decide +kernel
set_option maxRecDepth 20000 in
theorem ggX8_knowsThat_X8_areTwo : GoodIn wsX8_knowsThat wsX8_areTwo := goodIn_r _ [9, 10, 11, 12, 8, 13, 1, 14, 47, 48, 49, 50, 51, 52, 53, 54, 55, 56, 57, 58, 59, 60, 61, 62, 63, 64, 65, 66, 67, 68, 69] (by decide +kernel) (by decide +kernel)
set_option maxRecDepth 20000 in
theorem gX8_knowsThat_X8_areTwo : GoodIn wsX8_knowsThat (wsV RX8 180 RX8 yX8_areTwo wsX8_areTwo) := goodIn_app (goodIn_of _ (by decide +kernel)) ggX8_knowsThat_X8_areTwo
set_option maxRecDepth 20000 in
theorem ggX8_knowsThat_X8_isThing : GoodIn wsX8_knowsThat wsX8_isThing := goodIn_r _ [17] (by decide +kernel) (by decide +kernel)
set_option maxRecDepth 20000 in
theorem gX8_knowsThat_X8_isThing : GoodIn wsX8_knowsThat (va_wsS RX8 278 yX8_isThing wsX8_isThing) := goodIn_app (goodIn_of _ (by decide +kernel)) ggX8_knowsThat_X8_isThing
set_option maxRecDepth 20000 in
theorem ggX8_knowsThat_X6_isHeardBy : GoodIn wsX8_knowsThat wsX6_isHeardBy := goodIn_r _ [22, 23, 24, 25, 26, 27, 21, 28, 29, 30, 31, 32, 33, 34, 35, 36, 37, 38, 39, 59, 60, 61, 62, 63, 64, 65, 66, 67, 68, 69] (by decide +kernel) (by decide +kernel)
set_option maxRecDepth 20000 in
theorem gX8_knowsThat_X6_isHeardBy : GoodIn wsX8_knowsThat (wsV RX8 186 RX6 yX6_isHeardBy wsX6_isHeardBy) := goodIn_app (goodIn_of _ (by decide +kernel)) ggX8_knowsThat_X6_isHeardBy
set_option maxRecDepth 20000 in
theorem ggX8_knowsThat_X1_showed : GoodIn wsX8_knowsThat wsX1_showed := goodIn_r _ [44, 45, 46, 70, 71, 72, 73, 74, 75] (by decide +kernel) (by decide +kernel)
set_option maxRecDepth 20000 in
theorem gX8_knowsThat_X1_showed : GoodIn wsX8_knowsThat (wsV RX8 304 RX1 yX1_showed wsX1_showed) := goodIn_app (goodIn_of _ (by decide +kernel)) ggX8_knowsThat_X1_showed
theorem dX8_knowsThat_0 : decode cX8_knowsThat 0 = .ok (.aload_n 0, 1) := by decide +kernel
theorem dX8_knowsThat_1 : decode cX8_knowsThat 1 = .ok (.iload_n 1, 1) := by decide +kernel
theorem dX8_knowsThat_2 : decode cX8_knowsThat 2 = .ok (.iload_n 2, 1) := by decide +kernel
theorem dX8_knowsThat_3 : decode cX8_knowsThat 3 = .ok (.invokevirtual 180, 3) := by decide +kernel
theorem dX8_knowsThat_6 : decode cX8_knowsThat 6 = .ok (.ifCond .eq 10, 3) := by decide +kernel
theorem dX8_knowsThat_9 : decode cX8_knowsThat 9 = .ok (.iload_n 3, 1) := by decide +kernel
theorem dX8_knowsThat_10 : decode cX8_knowsThat 10 = .ok (.invokestatic 278, 3) := by decide +kernel
theorem dX8_knowsThat_13 : decode cX8_knowsThat 13 = .ok (.ifCond .ne 5, 3) := by decide +kernel
theorem dX8_knowsThat_16 : decode cX8_knowsThat 16 = .ok (.iconst (-1), 1) := by decide +kernel
theorem dX8_knowsThat_17 : decode cX8_knowsThat 17 = .ok (.ireturn, 1) := by decide +kernel
theorem dX8_knowsThat_18 : decode cX8_knowsThat 18 = .ok (.aload_n 0, 1) := by decide +kernel
theorem dX8_knowsThat_19 : decode cX8_knowsThat 19 = .ok (.getfield 24, 3) := by decide +kernel
theorem dX8_knowsThat_22 : decode cX8_knowsThat 22 = .ok (.iload_n 1, 1) := by decide +kernel
theorem dX8_knowsThat_23 : decode cX8_knowsThat 23 = .ok (.iload_n 2, 1) := by decide +kernel
theorem dX8_knowsThat_24 : decode cX8_knowsThat 24 = .ok (.invokevirtual 186, 3) := by decide +kernel
theorem dX8_knowsThat_27 : decode cX8_knowsThat 27 = .ok (.istore 4, 2) := by decide +kernel
theorem dX8_knowsThat_29 : decode cX8_knowsThat 29 = .ok (.iconst 0, 1) := by decide +kernel
theorem dX8_knowsThat_30 : decode cX8_knowsThat 30 = .ok (.istore 5, 2) := by decide +kernel
theorem dX8_knowsThat_32 : decode cX8_knowsThat 32 = .ok (.iload 5, 2) := by decide +kernel
theorem dX8_knowsThat_34 : decode cX8_knowsThat 34 = .ok (.aload_n 0, 1) := by decide +kernel
theorem dX8_knowsThat_35 : decode cX8_knowsThat 35 = .ok (.getfield 24, 3) := by decide +kernel
theorem dX8_knowsThat_38 : decode cX8_knowsThat 38 = .ok (.getfield 281, 3) := by decide +kernel
theorem dX8_knowsThat_41 : decode cX8_knowsThat 41 = .ok (.getfield 293, 3) := by decide +kernel
theorem dX8_knowsThat_44 : decode cX8_knowsThat 44 = .ok (.if_icmp .ge 47, 3) := by decide +kernel
theorem dX8_knowsThat_47 : decode cX8_knowsThat 47 = .ok (.aload_n 0, 1) := by decide +kernel
theorem dX8_knowsThat_48 : decode cX8_knowsThat 48 = .ok (.getfield 24, 3) := by decide +kernel
theorem dX8_knowsThat_51 : decode cX8_knowsThat 51 = .ok (.getfield 281, 3) := by decide +kernel
theorem dX8_knowsThat_54 : decode cX8_knowsThat 54 = .ok (.getfield 301, 3) := by decide +kernel
theorem dX8_knowsThat_57 : decode cX8_knowsThat 57 = .ok (.iload 5, 2) := by decide +kernel
theorem dX8_knowsThat_59 : decode cX8_knowsThat 59 = .ok (.iaload, 1) := by decide +kernel
theorem dX8_knowsThat_60 : decode cX8_knowsThat 60 = .ok (.iload_n 3, 1) := by decide +kernel
theorem dX8_knowsThat_61 : decode cX8_knowsThat 61 = .ok (.if_icmp .ne 24, 3) := by decide +kernel
theorem dX8_knowsThat_64 : decode cX8_knowsThat 64 = .ok (.aload_n 0, 1) := by decide +kernel
theorem dX8_knowsThat_65 : decode cX8_knowsThat 65 = .ok (.getfield 24, 3) := by decide +kernel
theorem dX8_knowsThat_68 : decode cX8_knowsThat 68 = .ok (.getfield 281, 3) := by decide +kernel
theorem dX8_knowsThat_71 : decode cX8_knowsThat 71 = .ok (.iload 5, 2) := by decide +kernel
theorem dX8_knowsThat_73 : decode cX8_knowsThat 73 = .ok (.iload_n 1, 1) := by decide +kernel
theorem dX8_knowsThat_74 : decode cX8_knowsThat 74 = .ok (.iload_n 2, 1) := by decide +kernel
theorem dX8_knowsThat_75 : decode cX8_knowsThat 75 = .ok (.iload 4, 2) := by decide +kernel
theorem dX8_knowsThat_77 : decode cX8_knowsThat 77 = .ok (.invokevirtual 304, 3) := by decide +kernel
theorem dX8_knowsThat_80 : decode cX8_knowsThat 80 = .ok (.ifCond .eq 5, 3) := by decide +kernel
theorem dX8_knowsThat_83 : decode cX8_knowsThat 83 = .ok (.iconst 1, 1) := by decide +kernel
theorem dX8_knowsThat_84 : decode cX8_knowsThat 84 = .ok (.ireturn, 1) := by decide +kernel
theorem dX8_knowsThat_85 : decode cX8_knowsThat 85 = .ok (.iinc 5 1, 3) := by decide +kernel
theorem dX8_knowsThat_88 : decode cX8_knowsThat 88 = .ok (.goto (-56), 3) := by decide +kernel
theorem dX8_knowsThat_91 : decode cX8_knowsThat 91 = .ok (.iconst 0, 1) := by decide +kernel
theorem dX8_knowsThat_92 : decode cX8_knowsThat 92 = .ok (.ireturn, 1) := by decide +kernel
set_option maxRecDepth 20000 in
theorem ggX8_spread_X8_isThing : GoodIn wsX8_spread wsX8_isThing := goodIn_r _ [7] (by decide +kernel) (by decide +kernel)
set_option maxRecDepth 20000 in
theorem gX8_spread_X8_isThing : GoodIn wsX8_spread (va_wsS RX8 278 yX8_isThing wsX8_isThing) := goodIn_app (goodIn_of _ (by decide +kernel)) ggX8_spread_X8_isThing
set_option maxRecDepth 20000 in
theorem ggX8_spread_X1_whoKnow : GoodIn wsX8_spread wsX1_whoKnow := goodIn_r _ [12, 13, 76, 77, 78, 79, 80, 81] (by decide +kernel) (by decide +kernel)
set_option maxRecDepth 20000 in
theorem gX8_spread_X1_whoKnow : GoodIn wsX8_spread (wsV RX8 290 RX1 yX1_whoKnow wsX1_whoKnow) := goodIn_app (goodIn_of _ (by decide +kernel)) ggX8_spread_X1_whoKnow
set_option maxRecDepth 20000 in
theorem ggX8_spread_X6_whoHear : GoodIn wsX8_spread wsX6_whoHear := goodIn_r _ [18, 19, 20, 21, 17, 22, 23, 24, 25, 26, 27, 28, 29, 30, 31, 32, 33, 34, 35, 36, 37, 38, 39, 40, 41, 42, 43, 44, 45, 46, 47, 48, 49, 50, 51, 52, 65, 66, 67, 68, 69, 70, 71, 72, 73, 74, 75] (by decide +kernel) (by decide +kernel)
set_option maxRecDepth 20000 in
theorem gX8_spread_X6_whoHear : GoodIn wsX8_spread (wsV RX8 148 RX6 yX6_whoHear wsX6_whoHear) := goodIn_app (goodIn_of _ (by decide +kernel)) ggX8_spread_X6_whoHear
theorem dX8_spread_0 : decode cX8_spread 0 = .ok (.iload_n 1, 1) := by decide +kernel
theorem dX8_spread_1 : decode cX8_spread 1 = .ok (.invokestatic 278, 3) := by decide +kernel
theorem dX8_spread_4 : decode cX8_spread 4 = .ok (.ifCond .eq 13, 3) := by decide +kernel
theorem dX8_spread_7 : decode cX8_spread 7 = .ok (.iload_n 2, 1) := by decide +kernel
theorem dX8_spread_8 : decode cX8_spread 8 = .ok (.ifCond .lt 9, 3) := by decide +kernel
theorem dX8_spread_11 : decode cX8_spread 11 = .ok (.iload_n 2, 1) := by decide +kernel
theorem dX8_spread_12 : decode cX8_spread 12 = .ok (.bipush 20, 2) := by decide +kernel
theorem dX8_spread_14 : decode cX8_spread 14 = .ok (.if_icmp .le 5, 3) := by decide +kernel
theorem dX8_spread_17 : decode cX8_spread 17 = .ok (.iconst (-1), 1) := by decide +kernel
theorem dX8_spread_18 : decode cX8_spread 18 = .ok (.ireturn, 1) := by decide +kernel
theorem dX8_spread_19 : decode cX8_spread 19 = .ok (.aload_n 0, 1) := by decide +kernel
theorem dX8_spread_20 : decode cX8_spread 20 = .ok (.getfield 24, 3) := by decide +kernel
theorem dX8_spread_23 : decode cX8_spread 23 = .ok (.getfield 281, 3) := by decide +kernel
theorem dX8_spread_26 : decode cX8_spread 26 = .ok (.iload_n 1, 1) := by decide +kernel
theorem dX8_spread_27 : decode cX8_spread 27 = .ok (.invokevirtual 290, 3) := by decide +kernel
theorem dX8_spread_30 : decode cX8_spread 30 = .ok (.istore_n 3, 1) := by decide +kernel
theorem dX8_spread_31 : decode cX8_spread 31 = .ok (.iconst 0, 1) := by decide +kernel
theorem dX8_spread_32 : decode cX8_spread 32 = .ok (.istore 4, 2) := by decide +kernel
theorem dX8_spread_34 : decode cX8_spread 34 = .ok (.iload 4, 2) := by decide +kernel
theorem dX8_spread_36 : decode cX8_spread 36 = .ok (.iload_n 2, 1) := by decide +kernel
theorem dX8_spread_37 : decode cX8_spread 37 = .ok (.if_icmp .ge 56, 3) := by decide +kernel
theorem dX8_spread_40 : decode cX8_spread 40 = .ok (.iload_n 3, 1) := by decide +kernel
theorem dX8_spread_41 : decode cX8_spread 41 = .ok (.istore 5, 2) := by decide +kernel
theorem dX8_spread_43 : decode cX8_spread 43 = .ok (.iconst 0, 1) := by decide +kernel
theorem dX8_spread_44 : decode cX8_spread 44 = .ok (.istore 6, 2) := by decide +kernel
theorem dX8_spread_46 : decode cX8_spread 46 = .ok (.iload 6, 2) := by decide +kernel
theorem dX8_spread_48 : decode cX8_spread 48 = .ok (.aload_n 0, 1) := by decide +kernel
theorem dX8_spread_49 : decode cX8_spread 49 = .ok (.getfield 24, 3) := by decide +kernel
theorem dX8_spread_52 : decode cX8_spread 52 = .ok (.getfield 131, 3) := by decide +kernel
theorem dX8_spread_55 : decode cX8_spread 55 = .ok (.if_icmp .ge 32, 3) := by decide +kernel
theorem dX8_spread_58 : decode cX8_spread 58 = .ok (.iload 5, 2) := by decide +kernel
theorem dX8_spread_60 : decode cX8_spread 60 = .ok (.iload 6, 2) := by decide +kernel
theorem dX8_spread_62 : decode cX8_spread 62 = .ok (.ishr, 1) := by decide +kernel
theorem dX8_spread_63 : decode cX8_spread 63 = .ok (.iconst 1, 1) := by decide +kernel
theorem dX8_spread_64 : decode cX8_spread 64 = .ok (.iand, 1) := by decide +kernel
theorem dX8_spread_65 : decode cX8_spread 65 = .ok (.ifCond .eq 16, 3) := by decide +kernel
theorem dX8_spread_68 : decode cX8_spread 68 = .ok (.iload_n 3, 1) := by decide +kernel
theorem dX8_spread_69 : decode cX8_spread 69 = .ok (.aload_n 0, 1) := by decide +kernel
theorem dX8_spread_70 : decode cX8_spread 70 = .ok (.getfield 24, 3) := by decide +kernel
theorem dX8_spread_73 : decode cX8_spread 73 = .ok (.iload 6, 2) := by decide +kernel
theorem dX8_spread_75 : decode cX8_spread 75 = .ok (.iconst 0, 1) := by decide +kernel
theorem dX8_spread_76 : decode cX8_spread 76 = .ok (.invokevirtual 148, 3) := by decide +kernel
theorem dX8_spread_79 : decode cX8_spread 79 = .ok (.ior, 1) := by decide +kernel
theorem dX8_spread_80 : decode cX8_spread 80 = .ok (.istore_n 3, 1) := by decide +kernel
theorem dX8_spread_81 : decode cX8_spread 81 = .ok (.iinc 6 1, 3) := by decide +kernel
theorem dX8_spread_84 : decode cX8_spread 84 = .ok (.goto (-38), 3) := by decide +kernel
theorem dX8_spread_87 : decode cX8_spread 87 = .ok (.iinc 4 1, 3) := by decide +kernel
theorem dX8_spread_90 : decode cX8_spread 90 = .ok (.goto (-56), 3) := by decide +kernel
theorem dX8_spread_93 : decode cX8_spread 93 = .ok (.iload_n 3, 1) := by decide +kernel
theorem dX8_spread_94 : decode cX8_spread 94 = .ok (.ireturn, 1) := by decide +kernel
set_option maxRecDepth 20000 in
theorem ggX8_leak_X8_isSet : GoodIn wsX8_leak wsX8_isSet := goodIn_r _ [7, 1, 8, 9, 10, 11, 12, 13, 52, 53, 54, 55, 56, 57, 58, 59, 60, 61, 62, 63, 64, 65, 66, 67, 68, 69, 70, 71, 72, 73, 74] (by decide +kernel) (by decide +kernel)
set_option maxRecDepth 20000 in
theorem gX8_leak_X8_isSet : GoodIn wsX8_leak (wsV RX8 189 RX8 yX8_isSet wsX8_isSet) := goodIn_app (goodIn_of _ (by decide +kernel)) ggX8_leak_X8_isSet
set_option maxRecDepth 20000 in
theorem ggX8_leak_X6_circleOf : GoodIn wsX8_leak wsX6_circleOf := goodIn_r _ [17, 18, 19, 20, 11, 21, 22, 9, 10, 12, 13, 23, 24, 25, 26, 27, 28, 29, 30, 31, 32, 33, 34, 35, 36, 37, 38, 39, 40, 41, 42, 43, 44, 45, 46, 47, 48, 49, 50, 51, 64, 65, 66, 67, 68, 69, 70, 71, 72, 73, 74] (by decide +kernel) (by decide +kernel)
set_option maxRecDepth 20000 in
theorem gX8_leak_X6_circleOf : GoodIn wsX8_leak (wsV RX8 308 RX6 yX6_circleOf wsX6_circleOf) := goodIn_app (goodIn_of _ (by decide +kernel)) ggX8_leak_X6_circleOf
theorem dX8_leak_0 : decode cX8_leak 0 = .ok (.aload_n 0, 1) := by decide +kernel
theorem dX8_leak_1 : decode cX8_leak 1 = .ok (.iload_n 1, 1) := by decide +kernel
theorem dX8_leak_2 : decode cX8_leak 2 = .ok (.invokevirtual 189, 3) := by decide +kernel
theorem dX8_leak_5 : decode cX8_leak 5 = .ok (.ifCond .ne 5, 3) := by decide +kernel
theorem dX8_leak_8 : decode cX8_leak 8 = .ok (.iconst (-1), 1) := by decide +kernel
theorem dX8_leak_9 : decode cX8_leak 9 = .ok (.ireturn, 1) := by decide +kernel
theorem dX8_leak_10 : decode cX8_leak 10 = .ok (.iconst 0, 1) := by decide +kernel
theorem dX8_leak_11 : decode cX8_leak 11 = .ok (.istore_n 2, 1) := by decide +kernel
theorem dX8_leak_12 : decode cX8_leak 12 = .ok (.iconst 0, 1) := by decide +kernel
theorem dX8_leak_13 : decode cX8_leak 13 = .ok (.istore_n 3, 1) := by decide +kernel
theorem dX8_leak_14 : decode cX8_leak 14 = .ok (.iload_n 3, 1) := by decide +kernel
theorem dX8_leak_15 : decode cX8_leak 15 = .ok (.aload_n 0, 1) := by decide +kernel
theorem dX8_leak_16 : decode cX8_leak 16 = .ok (.getfield 24, 3) := by decide +kernel
theorem dX8_leak_19 : decode cX8_leak 19 = .ok (.getfield 131, 3) := by decide +kernel
theorem dX8_leak_22 : decode cX8_leak 22 = .ok (.if_icmp .ge 27, 3) := by decide +kernel
theorem dX8_leak_25 : decode cX8_leak 25 = .ok (.aload_n 0, 1) := by decide +kernel
theorem dX8_leak_26 : decode cX8_leak 26 = .ok (.getfield 24, 3) := by decide +kernel
theorem dX8_leak_29 : decode cX8_leak 29 = .ok (.iload_n 3, 1) := by decide +kernel
theorem dX8_leak_30 : decode cX8_leak 30 = .ok (.invokevirtual 308, 3) := by decide +kernel
theorem dX8_leak_33 : decode cX8_leak 33 = .ok (.iload_n 1, 1) := by decide +kernel
theorem dX8_leak_34 : decode cX8_leak 34 = .ok (.if_icmp .ne 9, 3) := by decide +kernel
theorem dX8_leak_37 : decode cX8_leak 37 = .ok (.iload_n 2, 1) := by decide +kernel
theorem dX8_leak_38 : decode cX8_leak 38 = .ok (.iconst 1, 1) := by decide +kernel
theorem dX8_leak_39 : decode cX8_leak 39 = .ok (.iload_n 3, 1) := by decide +kernel
theorem dX8_leak_40 : decode cX8_leak 40 = .ok (.ishl, 1) := by decide +kernel
theorem dX8_leak_41 : decode cX8_leak 41 = .ok (.ior, 1) := by decide +kernel
theorem dX8_leak_42 : decode cX8_leak 42 = .ok (.istore_n 2, 1) := by decide +kernel
theorem dX8_leak_43 : decode cX8_leak 43 = .ok (.iinc 3 1, 3) := by decide +kernel
theorem dX8_leak_46 : decode cX8_leak 46 = .ok (.goto (-32), 3) := by decide +kernel
theorem dX8_leak_49 : decode cX8_leak 49 = .ok (.iload_n 2, 1) := by decide +kernel
theorem dX8_leak_50 : decode cX8_leak 50 = .ok (.ireturn, 1) := by decide +kernel
set_option maxRecDepth 20000 in
theorem ggX8_leaks_X8_isSet : GoodIn wsX8_leaks wsX8_isSet := goodIn_r _ [7, 1, 8, 9, 10, 11, 12, 13, 52, 53, 54, 55, 56, 57, 58, 59, 60, 61, 62, 63, 64, 65, 66, 67, 68, 69, 70, 71, 72, 73, 74] (by decide +kernel) (by decide +kernel)
set_option maxRecDepth 20000 in
theorem gX8_leaks_X8_isSet : GoodIn wsX8_leaks (wsV RX8 189 RX8 yX8_isSet wsX8_isSet) := goodIn_app (goodIn_of _ (by decide +kernel)) ggX8_leaks_X8_isSet
set_option maxRecDepth 20000 in
theorem ggX8_leaks_X6_circleOf : GoodIn wsX8_leaks wsX6_circleOf := goodIn_r _ [17, 18, 19, 20, 11, 21, 22, 9, 10, 12, 13, 23, 24, 25, 26, 27, 28, 29, 30, 31, 32, 33, 34, 35, 36, 37, 38, 39, 40, 41, 42, 43, 44, 45, 46, 47, 48, 49, 50, 51, 64, 65, 66, 67, 68, 69, 70, 71, 72, 73, 74] (by decide +kernel) (by decide +kernel)
set_option maxRecDepth 20000 in
theorem gX8_leaks_X6_circleOf : GoodIn wsX8_leaks (wsV RX8 308 RX6 yX6_circleOf wsX6_circleOf) := goodIn_app (goodIn_of _ (by decide +kernel)) ggX8_leaks_X6_circleOf
theorem dX8_leaks_0 : decode cX8_leaks 0 = .ok (.aload_n 0, 1) := by decide +kernel
theorem dX8_leaks_1 : decode cX8_leaks 1 = .ok (.iload_n 1, 1) := by decide +kernel
theorem dX8_leaks_2 : decode cX8_leaks 2 = .ok (.invokevirtual 189, 3) := by decide +kernel
theorem dX8_leaks_5 : decode cX8_leaks 5 = .ok (.ifCond .ne 5, 3) := by decide +kernel
theorem dX8_leaks_8 : decode cX8_leaks 8 = .ok (.iconst (-1), 1) := by decide +kernel
theorem dX8_leaks_9 : decode cX8_leaks 9 = .ok (.ireturn, 1) := by decide +kernel
theorem dX8_leaks_10 : decode cX8_leaks 10 = .ok (.iconst 0, 1) := by decide +kernel
theorem dX8_leaks_11 : decode cX8_leaks 11 = .ok (.istore_n 2, 1) := by decide +kernel
theorem dX8_leaks_12 : decode cX8_leaks 12 = .ok (.iconst 0, 1) := by decide +kernel
theorem dX8_leaks_13 : decode cX8_leaks 13 = .ok (.istore_n 3, 1) := by decide +kernel
theorem dX8_leaks_14 : decode cX8_leaks 14 = .ok (.iload_n 3, 1) := by decide +kernel
theorem dX8_leaks_15 : decode cX8_leaks 15 = .ok (.aload_n 0, 1) := by decide +kernel
theorem dX8_leaks_16 : decode cX8_leaks 16 = .ok (.getfield 24, 3) := by decide +kernel
theorem dX8_leaks_19 : decode cX8_leaks 19 = .ok (.getfield 131, 3) := by decide +kernel
theorem dX8_leaks_22 : decode cX8_leaks 22 = .ok (.if_icmp .ge 69, 3) := by decide +kernel
theorem dX8_leaks_25 : decode cX8_leaks 25 = .ok (.aload_n 0, 1) := by decide +kernel
theorem dX8_leaks_26 : decode cX8_leaks 26 = .ok (.getfield 24, 3) := by decide +kernel
theorem dX8_leaks_29 : decode cX8_leaks 29 = .ok (.iload_n 3, 1) := by decide +kernel
theorem dX8_leaks_30 : decode cX8_leaks 30 = .ok (.invokevirtual 308, 3) := by decide +kernel
theorem dX8_leaks_33 : decode cX8_leaks 33 = .ok (.istore 4, 2) := by decide +kernel
theorem dX8_leaks_35 : decode cX8_leaks 35 = .ok (.iconst 0, 1) := by decide +kernel
theorem dX8_leaks_36 : decode cX8_leaks 36 = .ok (.istore 5, 2) := by decide +kernel
theorem dX8_leaks_38 : decode cX8_leaks 38 = .ok (.iload 5, 2) := by decide +kernel
theorem dX8_leaks_40 : decode cX8_leaks 40 = .ok (.aload_n 0, 1) := by decide +kernel
theorem dX8_leaks_41 : decode cX8_leaks 41 = .ok (.getfield 24, 3) := by decide +kernel
theorem dX8_leaks_44 : decode cX8_leaks 44 = .ok (.getfield 131, 3) := by decide +kernel
theorem dX8_leaks_47 : decode cX8_leaks 47 = .ok (.if_icmp .ge 38, 3) := by decide +kernel
theorem dX8_leaks_50 : decode cX8_leaks 50 = .ok (.iload 4, 2) := by decide +kernel
theorem dX8_leaks_52 : decode cX8_leaks 52 = .ok (.iload 5, 2) := by decide +kernel
theorem dX8_leaks_54 : decode cX8_leaks 54 = .ok (.ishr, 1) := by decide +kernel
theorem dX8_leaks_55 : decode cX8_leaks 55 = .ok (.iconst 1, 1) := by decide +kernel
theorem dX8_leaks_56 : decode cX8_leaks 56 = .ok (.iand, 1) := by decide +kernel
theorem dX8_leaks_57 : decode cX8_leaks 57 = .ok (.ifCond .eq 22, 3) := by decide +kernel
theorem dX8_leaks_60 : decode cX8_leaks 60 = .ok (.iload 4, 2) := by decide +kernel
theorem dX8_leaks_62 : decode cX8_leaks 62 = .ok (.aload_n 0, 1) := by decide +kernel
theorem dX8_leaks_63 : decode cX8_leaks 63 = .ok (.getfield 24, 3) := by decide +kernel
theorem dX8_leaks_66 : decode cX8_leaks 66 = .ok (.iload 5, 2) := by decide +kernel
theorem dX8_leaks_68 : decode cX8_leaks 68 = .ok (.invokevirtual 308, 3) := by decide +kernel
theorem dX8_leaks_71 : decode cX8_leaks 71 = .ok (.ior, 1) := by decide +kernel
theorem dX8_leaks_72 : decode cX8_leaks 72 = .ok (.iload_n 1, 1) := by decide +kernel
theorem dX8_leaks_73 : decode cX8_leaks 73 = .ok (.if_icmp .ne 6, 3) := by decide +kernel
theorem dX8_leaks_76 : decode cX8_leaks 76 = .ok (.iinc 2 1, 3) := by decide +kernel
theorem dX8_leaks_79 : decode cX8_leaks 79 = .ok (.iinc 5 1, 3) := by decide +kernel
theorem dX8_leaks_82 : decode cX8_leaks 82 = .ok (.goto (-44), 3) := by decide +kernel
theorem dX8_leaks_85 : decode cX8_leaks 85 = .ok (.iinc 3 1, 3) := by decide +kernel
theorem dX8_leaks_88 : decode cX8_leaks 88 = .ok (.goto (-74), 3) := by decide +kernel
theorem dX8_leaks_91 : decode cX8_leaks 91 = .ok (.iload_n 2, 1) := by decide +kernel
theorem dX8_leaks_92 : decode cX8_leaks 92 = .ok (.ireturn, 1) := by decide +kernel
set_option maxRecDepth 20000 in
theorem ggX8_keep_X8_isPlace : GoodIn wsX8_keep wsX8_isPlace := goodIn_r _ [10] (by decide +kernel) (by decide +kernel)
set_option maxRecDepth 20000 in
theorem gX8_keep_X8_isPlace : GoodIn wsX8_keep (va_wsS RX8 311 yX8_isPlace wsX8_isPlace) := goodIn_app (goodIn_of _ (by decide +kernel)) ggX8_keep_X8_isPlace
set_option maxRecDepth 20000 in
theorem ggX8_keep_X6_become : GoodIn wsX8_keep wsX6_become := goodIn_r _ [15, 16, 17, 18, 19, 20, 21, 22, 23, 24, 25, 26, 27, 28, 29, 30, 31, 32, 33, 34, 35, 36, 37, 38, 39, 40, 41, 42, 55, 56, 57, 58, 59, 60, 61, 62, 63, 64, 65, 66, 67, 68, 69, 70, 71] (by decide +kernel) (by decide +kernel)
set_option maxRecDepth 20000 in
theorem gX8_keep_X6_become : GoodIn wsX8_keep (wsV RX8 127 RX6 yX6_become wsX6_become) := goodIn_app (goodIn_of _ (by decide +kernel)) ggX8_keep_X6_become
theorem dX8_keep_0 : decode cX8_keep 0 = .ok (.iload_n 1, 1) := by decide +kernel
theorem dX8_keep_1 : decode cX8_keep 1 = .ok (.invokestatic 311, 3) := by decide +kernel
theorem dX8_keep_4 : decode cX8_keep 4 = .ok (.ifCond .ne 5, 3) := by decide +kernel
theorem dX8_keep_7 : decode cX8_keep 7 = .ok (.iconst (-1), 1) := by decide +kernel
theorem dX8_keep_8 : decode cX8_keep 8 = .ok (.ireturn, 1) := by decide +kernel
theorem dX8_keep_9 : decode cX8_keep 9 = .ok (.aload_n 0, 1) := by decide +kernel
theorem dX8_keep_10 : decode cX8_keep 10 = .ok (.getfield 24, 3) := by decide +kernel
theorem dX8_keep_13 : decode cX8_keep 13 = .ok (.getfield 131, 3) := by decide +kernel
theorem dX8_keep_16 : decode cX8_keep 16 = .ok (.ifCond .ne 6, 3) := by decide +kernel
theorem dX8_keep_19 : decode cX8_keep 19 = .ok (.bipush (-4), 2) := by decide +kernel
theorem dX8_keep_21 : decode cX8_keep 21 = .ok (.ireturn, 1) := by decide +kernel
theorem dX8_keep_22 : decode cX8_keep 22 = .ok (.aload_n 0, 1) := by decide +kernel
theorem dX8_keep_23 : decode cX8_keep 23 = .ok (.getfield 31, 3) := by decide +kernel
theorem dX8_keep_26 : decode cX8_keep 26 = .ok (.iload_n 1, 1) := by decide +kernel
theorem dX8_keep_27 : decode cX8_keep 27 = .ok (.aaload, 1) := by decide +kernel
theorem dX8_keep_28 : decode cX8_keep 28 = .ok (.aload_n 0, 1) := by decide +kernel
theorem dX8_keep_29 : decode cX8_keep 29 = .ok (.getfield 24, 3) := by decide +kernel
theorem dX8_keep_32 : decode cX8_keep 32 = .ok (.invokevirtual 127, 3) := by decide +kernel
theorem dX8_keep_35 : decode cX8_keep 35 = .ok (.aload_n 0, 1) := by decide +kernel
theorem dX8_keep_36 : decode cX8_keep 36 = .ok (.getfield 35, 3) := by decide +kernel
theorem dX8_keep_39 : decode cX8_keep 39 = .ok (.iload_n 1, 1) := by decide +kernel
theorem dX8_keep_40 : decode cX8_keep 40 = .ok (.iconst 1, 1) := by decide +kernel
theorem dX8_keep_41 : decode cX8_keep 41 = .ok (.bastore, 1) := by decide +kernel
theorem dX8_keep_42 : decode cX8_keep 42 = .ok (.aload_n 0, 1) := by decide +kernel
theorem dX8_keep_43 : decode cX8_keep 43 = .ok (.getfield 24, 3) := by decide +kernel
theorem dX8_keep_46 : decode cX8_keep 46 = .ok (.getfield 281, 3) := by decide +kernel
theorem dX8_keep_49 : decode cX8_keep 49 = .ok (.getfield 293, 3) := by decide +kernel
theorem dX8_keep_52 : decode cX8_keep 52 = .ok (.ireturn, 1) := by decide +kernel
set_option maxRecDepth 20000 in
theorem ggX8_on_X8_isPlace : GoodIn wsX8_on wsX8_isPlace := goodIn_r _ [9] (by decide +kernel) (by decide +kernel)
set_option maxRecDepth 20000 in
theorem gX8_on_X8_isPlace : GoodIn wsX8_on (va_wsS RX8 311 yX8_isPlace wsX8_isPlace) := goodIn_app (goodIn_of _ (by decide +kernel)) ggX8_on_X8_isPlace
set_option maxRecDepth 20000 in
theorem ggX8_on_X8_find : GoodIn wsX8_on wsX8_find := goodIn_r _ [13, 14, 15, 48, 49, 50, 51, 52, 53, 54, 55, 56, 57, 58, 59] (by decide +kernel) (by decide +kernel)
set_option maxRecDepth 20000 in
theorem gX8_on_X8_find : GoodIn wsX8_on (wsV RX8 70 RX8 yX8_find wsX8_find) := goodIn_app (goodIn_of _ (by decide +kernel)) ggX8_on_X8_find
set_option maxRecDepth 20000 in
theorem ggX8_on_X6_become : GoodIn wsX8_on wsX6_become := goodIn_r _ [20, 21, 22, 23, 24, 25, 26, 27, 28, 29, 30, 31, 32, 33, 34, 35, 36, 37, 38, 39, 40, 41, 42, 43, 44, 45, 46, 47, 60, 61, 62, 63, 64, 65, 66, 67, 68, 69, 70, 71, 72, 73, 74, 75, 76] (by decide +kernel) (by decide +kernel)
set_option maxRecDepth 20000 in
theorem gX8_on_X6_become : GoodIn wsX8_on (wsV RX8 127 RX6 yX6_become wsX6_become) := goodIn_app (goodIn_of _ (by decide +kernel)) ggX8_on_X6_become
theorem dX8_on_0 : decode cX8_on 0 = .ok (.iload_n 1, 1) := by decide +kernel
theorem dX8_on_1 : decode cX8_on 1 = .ok (.invokestatic 311, 3) := by decide +kernel
theorem dX8_on_4 : decode cX8_on 4 = .ok (.ifCond .ne 5, 3) := by decide +kernel
theorem dX8_on_7 : decode cX8_on 7 = .ok (.iconst (-1), 1) := by decide +kernel
theorem dX8_on_8 : decode cX8_on 8 = .ok (.ireturn, 1) := by decide +kernel
theorem dX8_on_9 : decode cX8_on 9 = .ok (.aload_n 0, 1) := by decide +kernel
theorem dX8_on_10 : decode cX8_on 10 = .ok (.getfield 35, 3) := by decide +kernel
theorem dX8_on_13 : decode cX8_on 13 = .ok (.iload_n 1, 1) := by decide +kernel
theorem dX8_on_14 : decode cX8_on 14 = .ok (.baload, 1) := by decide +kernel
theorem dX8_on_15 : decode cX8_on 15 = .ok (.ifCond .ne 9, 3) := by decide +kernel
theorem dX8_on_18 : decode cX8_on 18 = .ok (.aload_n 0, 1) := by decide +kernel
theorem dX8_on_19 : decode cX8_on 19 = .ok (.iconst 1, 1) := by decide +kernel
theorem dX8_on_20 : decode cX8_on 20 = .ok (.invokevirtual 70, 3) := by decide +kernel
theorem dX8_on_23 : decode cX8_on 23 = .ok (.ireturn, 1) := by decide +kernel
theorem dX8_on_24 : decode cX8_on 24 = .ok (.aload_n 0, 1) := by decide +kernel
theorem dX8_on_25 : decode cX8_on 25 = .ok (.getfield 24, 3) := by decide +kernel
theorem dX8_on_28 : decode cX8_on 28 = .ok (.aload_n 0, 1) := by decide +kernel
theorem dX8_on_29 : decode cX8_on 29 = .ok (.getfield 31, 3) := by decide +kernel
theorem dX8_on_32 : decode cX8_on 32 = .ok (.iload_n 1, 1) := by decide +kernel
theorem dX8_on_33 : decode cX8_on 33 = .ok (.aaload, 1) := by decide +kernel
theorem dX8_on_34 : decode cX8_on 34 = .ok (.invokevirtual 127, 3) := by decide +kernel
theorem dX8_on_37 : decode cX8_on 37 = .ok (.aload_n 0, 1) := by decide +kernel
theorem dX8_on_38 : decode cX8_on 38 = .ok (.getfield 24, 3) := by decide +kernel
theorem dX8_on_41 : decode cX8_on 41 = .ok (.getfield 281, 3) := by decide +kernel
theorem dX8_on_44 : decode cX8_on 44 = .ok (.getfield 293, 3) := by decide +kernel
theorem dX8_on_47 : decode cX8_on 47 = .ok (.ireturn, 1) := by decide +kernel
theorem dX8_asked_0 : decode cX8_asked 0 = .ok (.aload_n 0, 1) := by decide +kernel
theorem dX8_asked_1 : decode cX8_asked 1 = .ok (.getfield 92, 3) := by decide +kernel
theorem dX8_asked_4 : decode cX8_asked 4 = .ok (.ireturn, 1) := by decide +kernel
set_option maxRecDepth 20000 in
theorem ggX8_upper_X6_heardPairs : GoodIn wsX8_upper wsX6_heardPairs := goodIn_r _ [6, 7, 8, 9, 10, 5, 11, 12, 13, 14, 15, 16, 17, 18, 19, 20, 21, 22, 23, 24, 25, 26, 27, 28, 29, 30, 31, 32, 33, 34, 35, 36, 37, 38, 39, 40, 41, 42, 43, 44, 45, 46, 47, 48, 49, 50, 51, 73, 74, 75, 76, 77, 78, 79, 80, 81, 82, 83] (by decide +kernel) (by decide +kernel)
set_option maxRecDepth 20000 in
theorem gX8_upper_X6_heardPairs : GoodIn wsX8_upper (wsV RX8 319 RX6 yX6_heardPairs wsX6_heardPairs) := goodIn_app (goodIn_of _ (by decide +kernel)) ggX8_upper_X6_heardPairs
set_option maxRecDepth 20000 in
theorem ggX8_upper_X6_pairs : GoodIn wsX8_upper wsX6_pairs := goodIn_r _ [55, 7, 23, 24, 25, 26, 73, 74, 75, 76, 77, 78, 79, 80, 81, 82, 83] (by decide +kernel) (by decide +kernel)
set_option maxRecDepth 20000 in
theorem gX8_upper_X6_pairs : GoodIn wsX8_upper (wsV RX8 322 RX6 yX6_pairs wsX6_pairs) := goodIn_app (goodIn_of _ (by decide +kernel)) ggX8_upper_X6_pairs
set_option maxRecDepth 20000 in
theorem ggX8_upper_X8_commonDivisor : GoodIn wsX8_upper wsX8_commonDivisor := goodIn_r _ [59, 60, 24, 25, 26] (by decide +kernel) (by decide +kernel)
set_option maxRecDepth 20000 in
theorem gX8_upper_X8_commonDivisor : GoodIn wsX8_upper (va_wsS RX8 325 yX8_commonDivisor wsX8_commonDivisor) := goodIn_app (goodIn_of _ (by decide +kernel)) ggX8_upper_X8_commonDivisor
theorem dX8_upper_0 : decode cX8_upper 0 = .ok (.aload_n 0, 1) := by decide +kernel
theorem dX8_upper_1 : decode cX8_upper 1 = .ok (.getfield 24, 3) := by decide +kernel
theorem dX8_upper_4 : decode cX8_upper 4 = .ok (.invokevirtual 319, 3) := by decide +kernel
theorem dX8_upper_7 : decode cX8_upper 7 = .ok (.istore_n 1, 1) := by decide +kernel
theorem dX8_upper_8 : decode cX8_upper 8 = .ok (.iload_n 1, 1) := by decide +kernel
theorem dX8_upper_9 : decode cX8_upper 9 = .ok (.iload_n 1, 1) := by decide +kernel
theorem dX8_upper_10 : decode cX8_upper 10 = .ok (.aload_n 0, 1) := by decide +kernel
theorem dX8_upper_11 : decode cX8_upper 11 = .ok (.getfield 24, 3) := by decide +kernel
theorem dX8_upper_14 : decode cX8_upper 14 = .ok (.invokevirtual 322, 3) := by decide +kernel
theorem dX8_upper_17 : decode cX8_upper 17 = .ok (.invokestatic 325, 3) := by decide +kernel
theorem dX8_upper_20 : decode cX8_upper 20 = .ok (.idiv, 1) := by decide +kernel
theorem dX8_upper_21 : decode cX8_upper 21 = .ok (.i2l, 1) := by decide +kernel
theorem dX8_upper_22 : decode cX8_upper 22 = .ok (.lreturn, 1) := by decide +kernel
set_option maxRecDepth 20000 in
theorem ggX8_lower_X6_pairs : GoodIn wsX8_lower wsX6_pairs := goodIn_r _ [6, 7, 8, 9, 10, 11, 73, 74, 75, 76, 77, 78, 79, 80, 81, 82, 83] (by decide +kernel) (by decide +kernel)
set_option maxRecDepth 20000 in
theorem gX8_lower_X6_pairs : GoodIn wsX8_lower (wsV RX8 322 RX6 yX6_pairs wsX6_pairs) := goodIn_app (goodIn_of _ (by decide +kernel)) ggX8_lower_X6_pairs
set_option maxRecDepth 20000 in
theorem ggX8_lower_X6_heardPairs : GoodIn wsX8_lower wsX6_heardPairs := goodIn_r _ [15, 7, 16, 17, 18, 5, 19, 20, 21, 22, 23, 24, 25, 26, 27, 28, 29, 30, 8, 9, 10, 11, 31, 32, 33, 34, 35, 36, 37, 38, 39, 40, 41, 42, 43, 44, 45, 46, 47, 48, 49, 50, 51, 52, 53, 54, 55, 73, 74, 75, 76, 77, 78, 79, 80, 81, 82, 83] (by decide +kernel) (by decide +kernel)
set_option maxRecDepth 20000 in
theorem gX8_lower_X6_heardPairs : GoodIn wsX8_lower (wsV RX8 319 RX6 yX6_heardPairs wsX6_heardPairs) := goodIn_app (goodIn_of _ (by decide +kernel)) ggX8_lower_X6_heardPairs
set_option maxRecDepth 20000 in
theorem ggX8_lower_X8_commonDivisor : GoodIn wsX8_lower wsX8_commonDivisor := goodIn_r _ [59, 60, 9, 10, 11] (by decide +kernel) (by decide +kernel)
set_option maxRecDepth 20000 in
theorem gX8_lower_X8_commonDivisor : GoodIn wsX8_lower (va_wsS RX8 325 yX8_commonDivisor wsX8_commonDivisor) := goodIn_app (goodIn_of _ (by decide +kernel)) ggX8_lower_X8_commonDivisor
theorem dX8_lower_0 : decode cX8_lower 0 = .ok (.aload_n 0, 1) := by decide +kernel
theorem dX8_lower_1 : decode cX8_lower 1 = .ok (.getfield 24, 3) := by decide +kernel
theorem dX8_lower_4 : decode cX8_lower 4 = .ok (.invokevirtual 322, 3) := by decide +kernel
theorem dX8_lower_7 : decode cX8_lower 7 = .ok (.istore_n 1, 1) := by decide +kernel
theorem dX8_lower_8 : decode cX8_lower 8 = .ok (.iload_n 1, 1) := by decide +kernel
theorem dX8_lower_9 : decode cX8_lower 9 = .ok (.ifCond .ne 7, 3) := by decide +kernel
theorem dX8_lower_12 : decode cX8_lower 12 = .ok (.lconst 1, 1) := by decide +kernel
theorem dX8_lower_13 : decode cX8_lower 13 = .ok (.goto 17, 3) := by decide +kernel
theorem dX8_lower_16 : decode cX8_lower 16 = .ok (.iload_n 1, 1) := by decide +kernel
theorem dX8_lower_17 : decode cX8_lower 17 = .ok (.aload_n 0, 1) := by decide +kernel
theorem dX8_lower_18 : decode cX8_lower 18 = .ok (.getfield 24, 3) := by decide +kernel
theorem dX8_lower_21 : decode cX8_lower 21 = .ok (.invokevirtual 319, 3) := by decide +kernel
theorem dX8_lower_24 : decode cX8_lower 24 = .ok (.iload_n 1, 1) := by decide +kernel
theorem dX8_lower_25 : decode cX8_lower 25 = .ok (.invokestatic 325, 3) := by decide +kernel
theorem dX8_lower_28 : decode cX8_lower 28 = .ok (.idiv, 1) := by decide +kernel
theorem dX8_lower_29 : decode cX8_lower 29 = .ok (.i2l, 1) := by decide +kernel
theorem dX8_lower_30 : decode cX8_lower 30 = .ok (.lreturn, 1) := by decide +kernel
set_option maxRecDepth 20000 in
theorem ggX8_count_X6_howManyOf : GoodIn wsX8_count wsX6_howManyOf := goodIn_r _ [11, 12, 13, 14, 15, 16, 17, 18, 59, 60, 61, 62, 63, 64, 65, 66, 67, 68, 69] (by decide +kernel) (by decide +kernel)
set_option maxRecDepth 20000 in
theorem gX8_count_X6_howManyOf : GoodIn wsX8_count (wsV RX8 328 RX6 yX6_howManyOf wsX6_howManyOf) := goodIn_app (goodIn_of _ (by decide +kernel)) ggX8_count_X6_howManyOf
set_option maxRecDepth 20000 in
theorem ggX8_count_X8_howManyRows : GoodIn wsX8_count wsX8_howManyRows := goodIn_r _ [23, 24, 25, 26, 27, 28, 29, 30, 47, 48, 49, 50, 51, 52, 53, 54, 55, 56, 57, 58, 76, 77] (by decide +kernel) (by decide +kernel)
set_option maxRecDepth 20000 in
theorem gX8_count_X8_howManyRows : GoodIn wsX8_count (wsV RX8 331 RX8 yX8_howManyRows wsX8_howManyRows) := goodIn_app (goodIn_of _ (by decide +kernel)) ggX8_count_X8_howManyRows
set_option maxRecDepth 20000 in
theorem ggX8_count_X8_howManyTexts : GoodIn wsX8_count wsX8_howManyTexts := goodIn_r _ [34, 35, 36, 37, 38, 39, 40, 41, 47, 48, 49, 50, 51, 52, 53, 54, 55, 56, 57, 58, 78, 79] (by decide +kernel) (by decide +kernel)
set_option maxRecDepth 20000 in
theorem gX8_count_X8_howManyTexts : GoodIn wsX8_count (wsV RX8 334 RX8 yX8_howManyTexts wsX8_howManyTexts) := goodIn_app (goodIn_of _ (by decide +kernel)) ggX8_count_X8_howManyTexts
set_option maxRecDepth 20000 in
theorem ggX8_count_X8_howManyKept : GoodIn wsX8_count wsX8_howManyKept := goodIn_r _ [45, 46, 47, 48, 49, 50, 51, 52, 53, 54, 55, 56, 57, 58] (by decide +kernel) (by decide +kernel)
set_option maxRecDepth 20000 in
theorem gX8_count_X8_howManyKept : GoodIn wsX8_count (wsV RX8 337 RX8 yX8_howManyKept wsX8_howManyKept) := goodIn_app (goodIn_of _ (by decide +kernel)) ggX8_count_X8_howManyKept
theorem dX8_count_0 : decode cX8_count 0 = .ok (.iload_n 1, 1) := by decide +kernel
theorem dX8_count_1 : decode cX8_count 1 = .ok (.tableswitch 119 0 8 #[51, 59, 67, 75, 86, 95, 104, 109, 114], 51) := by decide +kernel
theorem dX8_count_52 : decode cX8_count 52 = .ok (.aload_n 0, 1) := by decide +kernel
theorem dX8_count_53 : decode cX8_count 53 = .ok (.getfield 24, 3) := by decide +kernel
theorem dX8_count_56 : decode cX8_count 56 = .ok (.getfield 131, 3) := by decide +kernel
theorem dX8_count_59 : decode cX8_count 59 = .ok (.ireturn, 1) := by decide +kernel
theorem dX8_count_60 : decode cX8_count 60 = .ok (.aload_n 0, 1) := by decide +kernel
theorem dX8_count_61 : decode cX8_count 61 = .ok (.getfield 24, 3) := by decide +kernel
theorem dX8_count_64 : decode cX8_count 64 = .ok (.getfield 165, 3) := by decide +kernel
theorem dX8_count_67 : decode cX8_count 67 = .ok (.ireturn, 1) := by decide +kernel
theorem dX8_count_68 : decode cX8_count 68 = .ok (.aload_n 0, 1) := by decide +kernel
theorem dX8_count_69 : decode cX8_count 69 = .ok (.getfield 24, 3) := by decide +kernel
theorem dX8_count_72 : decode cX8_count 72 = .ok (.getfield 202, 3) := by decide +kernel
theorem dX8_count_75 : decode cX8_count 75 = .ok (.ireturn, 1) := by decide +kernel
theorem dX8_count_76 : decode cX8_count 76 = .ok (.aload_n 0, 1) := by decide +kernel
theorem dX8_count_77 : decode cX8_count 77 = .ok (.getfield 24, 3) := by decide +kernel
theorem dX8_count_80 : decode cX8_count 80 = .ok (.getfield 281, 3) := by decide +kernel
theorem dX8_count_83 : decode cX8_count 83 = .ok (.getfield 293, 3) := by decide +kernel
theorem dX8_count_86 : decode cX8_count 86 = .ok (.ireturn, 1) := by decide +kernel
theorem dX8_count_87 : decode cX8_count 87 = .ok (.aload_n 0, 1) := by decide +kernel
theorem dX8_count_88 : decode cX8_count 88 = .ok (.getfield 24, 3) := by decide +kernel
theorem dX8_count_91 : decode cX8_count 91 = .ok (.iconst 1, 1) := by decide +kernel
theorem dX8_count_92 : decode cX8_count 92 = .ok (.invokevirtual 328, 3) := by decide +kernel
theorem dX8_count_95 : decode cX8_count 95 = .ok (.ireturn, 1) := by decide +kernel
theorem dX8_count_96 : decode cX8_count 96 = .ok (.aload_n 0, 1) := by decide +kernel
theorem dX8_count_97 : decode cX8_count 97 = .ok (.getfield 24, 3) := by decide +kernel
theorem dX8_count_100 : decode cX8_count 100 = .ok (.iconst 2, 1) := by decide +kernel
theorem dX8_count_101 : decode cX8_count 101 = .ok (.invokevirtual 328, 3) := by decide +kernel
theorem dX8_count_104 : decode cX8_count 104 = .ok (.ireturn, 1) := by decide +kernel
theorem dX8_count_105 : decode cX8_count 105 = .ok (.aload_n 0, 1) := by decide +kernel
theorem dX8_count_106 : decode cX8_count 106 = .ok (.invokevirtual 331, 3) := by decide +kernel
theorem dX8_count_109 : decode cX8_count 109 = .ok (.ireturn, 1) := by decide +kernel
theorem dX8_count_110 : decode cX8_count 110 = .ok (.aload_n 0, 1) := by decide +kernel
theorem dX8_count_111 : decode cX8_count 111 = .ok (.invokevirtual 334, 3) := by decide +kernel
theorem dX8_count_114 : decode cX8_count 114 = .ok (.ireturn, 1) := by decide +kernel
theorem dX8_count_115 : decode cX8_count 115 = .ok (.aload_n 0, 1) := by decide +kernel
theorem dX8_count_116 : decode cX8_count 116 = .ok (.invokevirtual 337, 3) := by decide +kernel
theorem dX8_count_119 : decode cX8_count 119 = .ok (.ireturn, 1) := by decide +kernel
theorem dX8_count_120 : decode cX8_count 120 = .ok (.iconst (-1), 1) := by decide +kernel
theorem dX8_count_121 : decode cX8_count 121 = .ok (.ireturn, 1) := by decide +kernel
theorem dX8_isRow_0 : decode cX8_isRow 0 = .ok (.iload_n 0, 1) := by decide +kernel
theorem dX8_isRow_1 : decode cX8_isRow 1 = .ok (.ifCond .lt 13, 3) := by decide +kernel
theorem dX8_isRow_4 : decode cX8_isRow 4 = .ok (.iload_n 0, 1) := by decide +kernel
theorem dX8_isRow_5 : decode cX8_isRow 5 = .ok (.bipush 6, 2) := by decide +kernel
theorem dX8_isRow_7 : decode cX8_isRow 7 = .ok (.if_icmp .ge 7, 3) := by decide +kernel
theorem dX8_isRow_10 : decode cX8_isRow 10 = .ok (.iconst 1, 1) := by decide +kernel
theorem dX8_isRow_11 : decode cX8_isRow 11 = .ok (.goto 4, 3) := by decide +kernel
theorem dX8_isRow_14 : decode cX8_isRow 14 = .ok (.iconst 0, 1) := by decide +kernel
theorem dX8_isRow_15 : decode cX8_isRow 15 = .ok (.ireturn, 1) := by decide +kernel
theorem dX8_isText_0 : decode cX8_isText 0 = .ok (.iload_n 0, 1) := by decide +kernel
theorem dX8_isText_1 : decode cX8_isText 1 = .ok (.ifCond .lt 12, 3) := by decide +kernel
theorem dX8_isText_4 : decode cX8_isText 4 = .ok (.iload_n 0, 1) := by decide +kernel
theorem dX8_isText_5 : decode cX8_isText 5 = .ok (.iconst 4, 1) := by decide +kernel
theorem dX8_isText_6 : decode cX8_isText 6 = .ok (.if_icmp .ge 7, 3) := by decide +kernel
theorem dX8_isText_9 : decode cX8_isText 9 = .ok (.iconst 1, 1) := by decide +kernel
theorem dX8_isText_10 : decode cX8_isText 10 = .ok (.goto 4, 3) := by decide +kernel
theorem dX8_isText_13 : decode cX8_isText 13 = .ok (.iconst 0, 1) := by decide +kernel
theorem dX8_isText_14 : decode cX8_isText 14 = .ok (.ireturn, 1) := by decide +kernel
theorem dX8_isPlace_0 : decode cX8_isPlace 0 = .ok (.iload_n 0, 1) := by decide +kernel
theorem dX8_isPlace_1 : decode cX8_isPlace 1 = .ok (.ifCond .lt 12, 3) := by decide +kernel
theorem dX8_isPlace_4 : decode cX8_isPlace 4 = .ok (.iload_n 0, 1) := by decide +kernel
theorem dX8_isPlace_5 : decode cX8_isPlace 5 = .ok (.iconst 3, 1) := by decide +kernel
theorem dX8_isPlace_6 : decode cX8_isPlace 6 = .ok (.if_icmp .ge 7, 3) := by decide +kernel
theorem dX8_isPlace_9 : decode cX8_isPlace 9 = .ok (.iconst 1, 1) := by decide +kernel
theorem dX8_isPlace_10 : decode cX8_isPlace 10 = .ok (.goto 4, 3) := by decide +kernel
theorem dX8_isPlace_13 : decode cX8_isPlace 13 = .ok (.iconst 0, 1) := by decide +kernel
theorem dX8_isPlace_14 : decode cX8_isPlace 14 = .ok (.ireturn, 1) := by decide +kernel
theorem dX8_isThing_0 : decode cX8_isThing 0 = .ok (.iload_n 0, 1) := by decide +kernel
theorem dX8_isThing_1 : decode cX8_isThing 1 = .ok (.ifCond .lt 13, 3) := by decide +kernel
theorem dX8_isThing_4 : decode cX8_isThing 4 = .ok (.iload_n 0, 1) := by decide +kernel
theorem dX8_isThing_5 : decode cX8_isThing 5 = .ok (.bipush 8, 2) := by decide +kernel
theorem dX8_isThing_7 : decode cX8_isThing 7 = .ok (.if_icmp .ge 7, 3) := by decide +kernel
theorem dX8_isThing_10 : decode cX8_isThing 10 = .ok (.iconst 1, 1) := by decide +kernel
theorem dX8_isThing_11 : decode cX8_isThing 11 = .ok (.goto 4, 3) := by decide +kernel
theorem dX8_isThing_14 : decode cX8_isThing 14 = .ok (.iconst 0, 1) := by decide +kernel
theorem dX8_isThing_15 : decode cX8_isThing 15 = .ok (.ireturn, 1) := by decide +kernel
theorem dX8_isOne_0 : decode cX8_isOne 0 = .ok (.iload_n 1, 1) := by decide +kernel
theorem dX8_isOne_1 : decode cX8_isOne 1 = .ok (.ifCond .lt 18, 3) := by decide +kernel
theorem dX8_isOne_4 : decode cX8_isOne 4 = .ok (.iload_n 1, 1) := by decide +kernel
theorem dX8_isOne_5 : decode cX8_isOne 5 = .ok (.aload_n 0, 1) := by decide +kernel
theorem dX8_isOne_6 : decode cX8_isOne 6 = .ok (.getfield 24, 3) := by decide +kernel
theorem dX8_isOne_9 : decode cX8_isOne 9 = .ok (.getfield 131, 3) := by decide +kernel
theorem dX8_isOne_12 : decode cX8_isOne 12 = .ok (.if_icmp .ge 7, 3) := by decide +kernel
theorem dX8_isOne_15 : decode cX8_isOne 15 = .ok (.iconst 1, 1) := by decide +kernel
theorem dX8_isOne_16 : decode cX8_isOne 16 = .ok (.goto 4, 3) := by decide +kernel
theorem dX8_isOne_19 : decode cX8_isOne 19 = .ok (.iconst 0, 1) := by decide +kernel
theorem dX8_isOne_20 : decode cX8_isOne 20 = .ok (.ireturn, 1) := by decide +kernel
set_option maxRecDepth 20000 in
theorem ggX8_areTwo_X8_isOne : GoodIn wsX8_areTwo wsX8_isOne := goodIn_r _ [5, 6, 7, 8, 9, 10, 11, 12, 13, 14, 15, 16, 17, 18, 19, 20, 21, 22, 23, 24, 25, 26, 27, 28, 29, 30] (by decide +kernel) (by decide +kernel)
set_option maxRecDepth 20000 in
theorem gX8_areTwo_X8_isOne : GoodIn wsX8_areTwo (wsV RX8 134 RX8 yX8_isOne wsX8_isOne) := goodIn_app (goodIn_of _ (by decide +kernel)) ggX8_areTwo_X8_isOne
theorem dX8_areTwo_0 : decode cX8_areTwo 0 = .ok (.aload_n 0, 1) := by decide +kernel
theorem dX8_areTwo_1 : decode cX8_areTwo 1 = .ok (.iload_n 1, 1) := by decide +kernel
theorem dX8_areTwo_2 : decode cX8_areTwo 2 = .ok (.invokevirtual 134, 3) := by decide +kernel
theorem dX8_areTwo_5 : decode cX8_areTwo 5 = .ok (.ifCond .eq 20, 3) := by decide +kernel
theorem dX8_areTwo_8 : decode cX8_areTwo 8 = .ok (.aload_n 0, 1) := by decide +kernel
theorem dX8_areTwo_9 : decode cX8_areTwo 9 = .ok (.iload_n 2, 1) := by decide +kernel
theorem dX8_areTwo_10 : decode cX8_areTwo 10 = .ok (.invokevirtual 134, 3) := by decide +kernel
theorem dX8_areTwo_13 : decode cX8_areTwo 13 = .ok (.ifCond .eq 12, 3) := by decide +kernel
theorem dX8_areTwo_16 : decode cX8_areTwo 16 = .ok (.iload_n 1, 1) := by decide +kernel
theorem dX8_areTwo_17 : decode cX8_areTwo 17 = .ok (.iload_n 2, 1) := by decide +kernel
theorem dX8_areTwo_18 : decode cX8_areTwo 18 = .ok (.if_icmp .eq 7, 3) := by decide +kernel
theorem dX8_areTwo_21 : decode cX8_areTwo 21 = .ok (.iconst 1, 1) := by decide +kernel
theorem dX8_areTwo_22 : decode cX8_areTwo 22 = .ok (.goto 4, 3) := by decide +kernel
theorem dX8_areTwo_25 : decode cX8_areTwo 25 = .ok (.iconst 0, 1) := by decide +kernel
theorem dX8_areTwo_26 : decode cX8_areTwo 26 = .ok (.ireturn, 1) := by decide +kernel
set_option maxRecDepth 20000 in
theorem ggX8_isSet_X6_everyone : GoodIn wsX8_isSet wsX6_everyone := goodIn_r _ [6, 7, 20, 21, 22, 23, 24, 25, 26, 27, 28, 29, 30] (by decide +kernel) (by decide +kernel)
set_option maxRecDepth 20000 in
theorem gX8_isSet_X6_everyone : GoodIn wsX8_isSet (wsV RX8 192 RX6 yX6_everyone wsX6_everyone) := goodIn_app (goodIn_of _ (by decide +kernel)) ggX8_isSet_X6_everyone
theorem dX8_isSet_0 : decode cX8_isSet 0 = .ok (.iload_n 1, 1) := by decide +kernel
theorem dX8_isSet_1 : decode cX8_isSet 1 = .ok (.ifCond .lt 18, 3) := by decide +kernel
theorem dX8_isSet_4 : decode cX8_isSet 4 = .ok (.iload_n 1, 1) := by decide +kernel
theorem dX8_isSet_5 : decode cX8_isSet 5 = .ok (.aload_n 0, 1) := by decide +kernel
theorem dX8_isSet_6 : decode cX8_isSet 6 = .ok (.getfield 24, 3) := by decide +kernel
theorem dX8_isSet_9 : decode cX8_isSet 9 = .ok (.invokevirtual 192, 3) := by decide +kernel
theorem dX8_isSet_12 : decode cX8_isSet 12 = .ok (.if_icmp .gt 7, 3) := by decide +kernel
theorem dX8_isSet_15 : decode cX8_isSet 15 = .ok (.iconst 1, 1) := by decide +kernel
theorem dX8_isSet_16 : decode cX8_isSet 16 = .ok (.goto 4, 3) := by decide +kernel
theorem dX8_isSet_19 : decode cX8_isSet 19 = .ok (.iconst 0, 1) := by decide +kernel
theorem dX8_isSet_20 : decode cX8_isSet 20 = .ok (.ireturn, 1) := by decide +kernel
theorem dX8_find_0 : decode cX8_find 0 = .ok (.aload_n 0, 1) := by decide +kernel
theorem dX8_find_1 : decode cX8_find 1 = .ok (.iload_n 1, 1) := by decide +kernel
theorem dX8_find_2 : decode cX8_find 2 = .ok (.putfield 340, 3) := by decide +kernel
theorem dX8_find_5 : decode cX8_find 5 = .ok (.aload_n 0, 1) := by decide +kernel
theorem dX8_find_6 : decode cX8_find 6 = .ok (.getfield 60, 3) := by decide +kernel
theorem dX8_find_9 : decode cX8_find 9 = .ok (.iload_n 1, 1) := by decide +kernel
theorem dX8_find_10 : decode cX8_find 10 = .ok (.dup2, 1) := by decide +kernel
theorem dX8_find_11 : decode cX8_find 11 = .ok (.iaload, 1) := by decide +kernel
theorem dX8_find_12 : decode cX8_find 12 = .ok (.iconst 1, 1) := by decide +kernel
theorem dX8_find_13 : decode cX8_find 13 = .ok (.iadd, 1) := by decide +kernel
theorem dX8_find_14 : decode cX8_find 14 = .ok (.iastore, 1) := by decide +kernel
theorem dX8_find_15 : decode cX8_find 15 = .ok (.bipush (-3), 2) := by decide +kernel
theorem dX8_find_17 : decode cX8_find 17 = .ok (.ireturn, 1) := by decide +kernel
set_option maxRecDepth 20000 in
theorem ggX8_isFewer_J6_bitCount_0f7a4 : GoodIn wsX8_isFewer wsJ6_bitCount_0f7a4 := goodIn_r _ [4, 5, 6, 7] (by decide +kernel) (by decide +kernel)
set_option maxRecDepth 20000 in
theorem gX8_isFewer_J6_bitCount_0f7a4 : GoodIn wsX8_isFewer (va_wsS RX8 151 yJ6_bitCount_0f7a4 wsJ6_bitCount_0f7a4) := goodIn_app (goodIn_of _ (by decide +kernel)) ggX8_isFewer_J6_bitCount_0f7a4
theorem dX8_isFewer_0 : decode cX8_isFewer 0 = .ok (.iload_n 1, 1) := by decide +kernel
theorem dX8_isFewer_1 : decode cX8_isFewer 1 = .ok (.bipush (-9), 2) := by decide +kernel
theorem dX8_isFewer_3 : decode cX8_isFewer 3 = .ok (.if_icmp .eq 14, 3) := by decide +kernel
theorem dX8_isFewer_6 : decode cX8_isFewer 6 = .ok (.iload_n 0, 1) := by decide +kernel
theorem dX8_isFewer_7 : decode cX8_isFewer 7 = .ok (.invokestatic 151, 3) := by decide +kernel
theorem dX8_isFewer_10 : decode cX8_isFewer 10 = .ok (.iload_n 1, 1) := by decide +kernel
theorem dX8_isFewer_11 : decode cX8_isFewer 11 = .ok (.invokestatic 151, 3) := by decide +kernel
theorem dX8_isFewer_14 : decode cX8_isFewer 14 = .ok (.if_icmp .ge 7, 3) := by decide +kernel
theorem dX8_isFewer_17 : decode cX8_isFewer 17 = .ok (.iconst 1, 1) := by decide +kernel
theorem dX8_isFewer_18 : decode cX8_isFewer 18 = .ok (.goto 4, 3) := by decide +kernel
theorem dX8_isFewer_21 : decode cX8_isFewer 21 = .ok (.iconst 0, 1) := by decide +kernel
theorem dX8_isFewer_22 : decode cX8_isFewer 22 = .ok (.ireturn, 1) := by decide +kernel
set_option maxRecDepth 20000 in
theorem ggX8_tellSet_J6_bitCount_0f7a4 : GoodIn wsX8_tellSet wsJ6_bitCount_0f7a4 := goodIn_r _ [5, 6, 7, 8] (by decide +kernel) (by decide +kernel)
set_option maxRecDepth 20000 in
theorem gX8_tellSet_J6_bitCount_0f7a4 : GoodIn wsX8_tellSet (va_wsS RX8 151 yJ6_bitCount_0f7a4 wsJ6_bitCount_0f7a4) := goodIn_app (goodIn_of _ (by decide +kernel)) ggX8_tellSet_J6_bitCount_0f7a4
theorem dX8_tellSet_0 : decode cX8_tellSet 0 = .ok (.iload_n 1, 1) := by decide +kernel
theorem dX8_tellSet_1 : decode cX8_tellSet 1 = .ok (.bipush (-9), 2) := by decide +kernel
theorem dX8_tellSet_3 : decode cX8_tellSet 3 = .ok (.if_icmp .ne 6, 3) := by decide +kernel
theorem dX8_tellSet_6 : decode cX8_tellSet 6 = .ok (.bipush (-9), 2) := by decide +kernel
theorem dX8_tellSet_8 : decode cX8_tellSet 8 = .ok (.ireturn, 1) := by decide +kernel
theorem dX8_tellSet_9 : decode cX8_tellSet 9 = .ok (.aload_n 0, 1) := by decide +kernel
theorem dX8_tellSet_10 : decode cX8_tellSet 10 = .ok (.iload_n 1, 1) := by decide +kernel
theorem dX8_tellSet_11 : decode cX8_tellSet 11 = .ok (.putfield 92, 3) := by decide +kernel
theorem dX8_tellSet_14 : decode cX8_tellSet 14 = .ok (.iload_n 1, 1) := by decide +kernel
theorem dX8_tellSet_15 : decode cX8_tellSet 15 = .ok (.invokestatic 151, 3) := by decide +kernel
theorem dX8_tellSet_18 : decode cX8_tellSet 18 = .ok (.ireturn, 1) := by decide +kernel
set_option maxRecDepth 20000 in
theorem ggX8_isSafeByPasting_X5_begin : GoodIn wsX8_isSafeByPasting wsX5_begin := goodIn_r _ [11, 12, 13, 97, 98] (by decide +kernel) (by decide +kernel)
set_option maxRecDepth 20000 in
theorem gX8_isSafeByPasting_X5_begin : GoodIn wsX8_isSafeByPasting (wsV RX8 356 RX5 yX5_begin wsX5_begin) := goodIn_app (goodIn_of _ (by decide +kernel)) ggX8_isSafeByPasting_X5_begin
set_option maxRecDepth 20000 in
theorem ggX8_isSafeByPasting_X6_measure : GoodIn wsX8_isSafeByPasting wsX6_measure := goodIn_r _ [18, 19, 20, 21, 86, 87, 88, 89, 90, 91, 92, 93, 94, 95, 96] (by decide +kernel) (by decide +kernel)
set_option maxRecDepth 20000 in
theorem gX8_isSafeByPasting_X6_measure : GoodIn wsX8_isSafeByPasting (wsV RX8 171 RX6 yX6_measure wsX6_measure) := goodIn_app (goodIn_of _ (by decide +kernel)) ggX8_isSafeByPasting_X6_measure
set_option maxRecDepth 20000 in
theorem ggX8_isSafeByPasting_X6_isSafe : GoodIn wsX8_isSafeByPasting wsX6_isSafe := goodIn_r _ [25, 26, 27, 28, 17, 29, 30, 31, 32, 33, 34, 35, 36, 37, 38, 39, 40, 41, 42, 43, 44, 45, 46, 47, 48, 49, 50, 51, 52, 53, 54, 55, 56, 57, 20, 58, 59, 60, 61, 62, 63, 64, 65, 66, 67, 68, 69, 86, 87, 88, 89, 90, 91, 92, 93, 94, 95, 96] (by decide +kernel) (by decide +kernel)
set_option maxRecDepth 20000 in
theorem gX8_isSafeByPasting_X6_isSafe : GoodIn wsX8_isSafeByPasting (wsV RX8 218 RX6 yX6_isSafe wsX6_isSafe) := goodIn_app (goodIn_of _ (by decide +kernel)) ggX8_isSafeByPasting_X6_isSafe
set_option maxRecDepth 20000 in
theorem ggX8_isSafeByPasting_X5_advance : GoodIn wsX8_isSafeByPasting wsX5_advance := goodIn_r _ [73, 12, 13, 97, 98] (by decide +kernel) (by decide +kernel)
set_option maxRecDepth 20000 in
theorem gX8_isSafeByPasting_X5_advance : GoodIn wsX8_isSafeByPasting (wsV RX8 358 RX5 yX5_advance wsX5_advance) := goodIn_app (goodIn_of _ (by decide +kernel)) ggX8_isSafeByPasting_X5_advance
theorem dX8_isSafeByPasting_0 : decode cX8_isSafeByPasting 0 = .ok (.aload_n 0, 1) := by decide +kernel
theorem dX8_isSafeByPasting_1 : decode cX8_isSafeByPasting 1 = .ok (.getfield 56, 3) := by decide +kernel
theorem dX8_isSafeByPasting_4 : decode cX8_isSafeByPasting 4 = .ok (.aload_n 0, 1) := by decide +kernel
theorem dX8_isSafeByPasting_5 : decode cX8_isSafeByPasting 5 = .ok (.getfield 24, 3) := by decide +kernel
theorem dX8_isSafeByPasting_8 : decode cX8_isSafeByPasting 8 = .ok (.getfield 165, 3) := by decide +kernel
theorem dX8_isSafeByPasting_11 : decode cX8_isSafeByPasting 11 = .ok (.iload_n 2, 1) := by decide +kernel
theorem dX8_isSafeByPasting_12 : decode cX8_isSafeByPasting 12 = .ok (.invokevirtual 356, 3) := by decide +kernel
theorem dX8_isSafeByPasting_15 : decode cX8_isSafeByPasting 15 = .ok (.iconst 0, 1) := by decide +kernel
theorem dX8_isSafeByPasting_16 : decode cX8_isSafeByPasting 16 = .ok (.istore_n 3, 1) := by decide +kernel
theorem dX8_isSafeByPasting_17 : decode cX8_isSafeByPasting 17 = .ok (.iload_n 3, 1) := by decide +kernel
theorem dX8_isSafeByPasting_18 : decode cX8_isSafeByPasting 18 = .ok (.sipush 1000, 3) := by decide +kernel
theorem dX8_isSafeByPasting_21 : decode cX8_isSafeByPasting 21 = .ok (.if_icmp .ge 94, 3) := by decide +kernel
theorem dX8_isSafeByPasting_24 : decode cX8_isSafeByPasting 24 = .ok (.iconst 0, 1) := by decide +kernel
theorem dX8_isSafeByPasting_25 : decode cX8_isSafeByPasting 25 = .ok (.istore 4, 2) := by decide +kernel
theorem dX8_isSafeByPasting_27 : decode cX8_isSafeByPasting 27 = .ok (.iload 4, 2) := by decide +kernel
theorem dX8_isSafeByPasting_29 : decode cX8_isSafeByPasting 29 = .ok (.aload_n 0, 1) := by decide +kernel
theorem dX8_isSafeByPasting_30 : decode cX8_isSafeByPasting 30 = .ok (.getfield 24, 3) := by decide +kernel
theorem dX8_isSafeByPasting_33 : decode cX8_isSafeByPasting 33 = .ok (.getfield 165, 3) := by decide +kernel
theorem dX8_isSafeByPasting_36 : decode cX8_isSafeByPasting 36 = .ok (.if_icmp .ge 40, 3) := by decide +kernel
theorem dX8_isSafeByPasting_39 : decode cX8_isSafeByPasting 39 = .ok (.aload_n 0, 1) := by decide +kernel
theorem dX8_isSafeByPasting_40 : decode cX8_isSafeByPasting 40 = .ok (.getfield 28, 3) := by decide +kernel
theorem dX8_isSafeByPasting_43 : decode cX8_isSafeByPasting 43 = .ok (.getfield 168, 3) := by decide +kernel
theorem dX8_isSafeByPasting_46 : decode cX8_isSafeByPasting 46 = .ok (.iload 4, 2) := by decide +kernel
theorem dX8_isSafeByPasting_48 : decode cX8_isSafeByPasting 48 = .ok (.aload_n 0, 1) := by decide +kernel
theorem dX8_isSafeByPasting_49 : decode cX8_isSafeByPasting 49 = .ok (.getfield 24, 3) := by decide +kernel
theorem dX8_isSafeByPasting_52 : decode cX8_isSafeByPasting 52 = .ok (.getfield 168, 3) := by decide +kernel
theorem dX8_isSafeByPasting_55 : decode cX8_isSafeByPasting 55 = .ok (.iload 4, 2) := by decide +kernel
theorem dX8_isSafeByPasting_57 : decode cX8_isSafeByPasting 57 = .ok (.iaload, 1) := by decide +kernel
theorem dX8_isSafeByPasting_58 : decode cX8_isSafeByPasting 58 = .ok (.aload_n 0, 1) := by decide +kernel
theorem dX8_isSafeByPasting_59 : decode cX8_isSafeByPasting 59 = .ok (.getfield 56, 3) := by decide +kernel
theorem dX8_isSafeByPasting_62 : decode cX8_isSafeByPasting 62 = .ok (.getfield 260, 3) := by decide +kernel
theorem dX8_isSafeByPasting_65 : decode cX8_isSafeByPasting 65 = .ok (.iload 4, 2) := by decide +kernel
theorem dX8_isSafeByPasting_67 : decode cX8_isSafeByPasting 67 = .ok (.iaload, 1) := by decide +kernel
theorem dX8_isSafeByPasting_68 : decode cX8_isSafeByPasting 68 = .ok (.iadd, 1) := by decide +kernel
theorem dX8_isSafeByPasting_69 : decode cX8_isSafeByPasting 69 = .ok (.iastore, 1) := by decide +kernel
theorem dX8_isSafeByPasting_70 : decode cX8_isSafeByPasting 70 = .ok (.iinc 4 1, 3) := by decide +kernel
theorem dX8_isSafeByPasting_73 : decode cX8_isSafeByPasting 73 = .ok (.goto (-46), 3) := by decide +kernel
theorem dX8_isSafeByPasting_76 : decode cX8_isSafeByPasting 76 = .ok (.aload_n 0, 1) := by decide +kernel
theorem dX8_isSafeByPasting_77 : decode cX8_isSafeByPasting 77 = .ok (.getfield 28, 3) := by decide +kernel
theorem dX8_isSafeByPasting_80 : decode cX8_isSafeByPasting 80 = .ok (.invokevirtual 171, 3) := by decide +kernel
theorem dX8_isSafeByPasting_83 : decode cX8_isSafeByPasting 83 = .ok (.aload_n 0, 1) := by decide +kernel
theorem dX8_isSafeByPasting_84 : decode cX8_isSafeByPasting 84 = .ok (.getfield 28, 3) := by decide +kernel
theorem dX8_isSafeByPasting_87 : decode cX8_isSafeByPasting 87 = .ok (.iload_n 1, 1) := by decide +kernel
theorem dX8_isSafeByPasting_88 : decode cX8_isSafeByPasting 88 = .ok (.iconst 0, 1) := by decide +kernel
theorem dX8_isSafeByPasting_89 : decode cX8_isSafeByPasting 89 = .ok (.invokevirtual 218, 3) := by decide +kernel
theorem dX8_isSafeByPasting_92 : decode cX8_isSafeByPasting 92 = .ok (.ifCond .eq 5, 3) := by decide +kernel
theorem dX8_isSafeByPasting_95 : decode cX8_isSafeByPasting 95 = .ok (.iconst 1, 1) := by decide +kernel
theorem dX8_isSafeByPasting_96 : decode cX8_isSafeByPasting 96 = .ok (.ireturn, 1) := by decide +kernel
theorem dX8_isSafeByPasting_97 : decode cX8_isSafeByPasting 97 = .ok (.aload_n 0, 1) := by decide +kernel
theorem dX8_isSafeByPasting_98 : decode cX8_isSafeByPasting 98 = .ok (.getfield 56, 3) := by decide +kernel
theorem dX8_isSafeByPasting_101 : decode cX8_isSafeByPasting 101 = .ok (.invokevirtual 358, 3) := by decide +kernel
theorem dX8_isSafeByPasting_104 : decode cX8_isSafeByPasting 104 = .ok (.ifCond .ne 5, 3) := by decide +kernel
theorem dX8_isSafeByPasting_107 : decode cX8_isSafeByPasting 107 = .ok (.iconst 0, 1) := by decide +kernel
theorem dX8_isSafeByPasting_108 : decode cX8_isSafeByPasting 108 = .ok (.ireturn, 1) := by decide +kernel
theorem dX8_isSafeByPasting_109 : decode cX8_isSafeByPasting 109 = .ok (.iinc 3 1, 3) := by decide +kernel
theorem dX8_isSafeByPasting_112 : decode cX8_isSafeByPasting 112 = .ok (.goto (-95), 3) := by decide +kernel
theorem dX8_isSafeByPasting_115 : decode cX8_isSafeByPasting 115 = .ok (.iconst 0, 1) := by decide +kernel
theorem dX8_isSafeByPasting_116 : decode cX8_isSafeByPasting 116 = .ok (.ireturn, 1) := by decide +kernel
theorem dX8_commonDivisor_0 : decode cX8_commonDivisor 0 = .ok (.iload_n 0, 1) := by decide +kernel
theorem dX8_commonDivisor_1 : decode cX8_commonDivisor 1 = .ok (.iload_n 1, 1) := by decide +kernel
theorem dX8_commonDivisor_2 : decode cX8_commonDivisor 2 = .ok (.invokestatic 271, 3) := by decide +kernel
theorem dX8_commonDivisor_5 : decode cX8_commonDivisor 5 = .ok (.istore_n 2, 1) := by decide +kernel
theorem dX8_commonDivisor_6 : decode cX8_commonDivisor 6 = .ok (.iload_n 2, 1) := by decide +kernel
theorem dX8_commonDivisor_7 : decode cX8_commonDivisor 7 = .ok (.istore_n 3, 1) := by decide +kernel
theorem dX8_commonDivisor_8 : decode cX8_commonDivisor 8 = .ok (.iload_n 3, 1) := by decide +kernel
theorem dX8_commonDivisor_9 : decode cX8_commonDivisor 9 = .ok (.iconst 1, 1) := by decide +kernel
theorem dX8_commonDivisor_10 : decode cX8_commonDivisor 10 = .ok (.if_icmp .le 23, 3) := by decide +kernel
theorem dX8_commonDivisor_13 : decode cX8_commonDivisor 13 = .ok (.iload_n 0, 1) := by decide +kernel
theorem dX8_commonDivisor_14 : decode cX8_commonDivisor 14 = .ok (.iload_n 3, 1) := by decide +kernel
theorem dX8_commonDivisor_15 : decode cX8_commonDivisor 15 = .ok (.irem, 1) := by decide +kernel
theorem dX8_commonDivisor_16 : decode cX8_commonDivisor 16 = .ok (.ifCond .ne 11, 3) := by decide +kernel
theorem dX8_commonDivisor_19 : decode cX8_commonDivisor 19 = .ok (.iload_n 1, 1) := by decide +kernel
theorem dX8_commonDivisor_20 : decode cX8_commonDivisor 20 = .ok (.iload_n 3, 1) := by decide +kernel
theorem dX8_commonDivisor_21 : decode cX8_commonDivisor 21 = .ok (.irem, 1) := by decide +kernel
theorem dX8_commonDivisor_22 : decode cX8_commonDivisor 22 = .ok (.ifCond .ne 5, 3) := by decide +kernel
theorem dX8_commonDivisor_25 : decode cX8_commonDivisor 25 = .ok (.iload_n 3, 1) := by decide +kernel
theorem dX8_commonDivisor_26 : decode cX8_commonDivisor 26 = .ok (.ireturn, 1) := by decide +kernel
theorem dX8_commonDivisor_27 : decode cX8_commonDivisor 27 = .ok (.iinc 3 (-1), 3) := by decide +kernel
theorem dX8_commonDivisor_30 : decode cX8_commonDivisor 30 = .ok (.goto (-22), 3) := by decide +kernel
theorem dX8_commonDivisor_33 : decode cX8_commonDivisor 33 = .ok (.iconst 1, 1) := by decide +kernel
theorem dX8_commonDivisor_34 : decode cX8_commonDivisor 34 = .ok (.ireturn, 1) := by decide +kernel
set_option maxRecDepth 20000 in
theorem ggX8_howManyRows_X4_isMissing : GoodIn wsX8_howManyRows wsX4_isMissing := goodIn_r _ [6, 7, 20, 21] (by decide +kernel) (by decide +kernel)
set_option maxRecDepth 20000 in
theorem gX8_howManyRows_X4_isMissing : GoodIn wsX8_howManyRows (wsV RX8 85 RX4 yX4_isMissing wsX4_isMissing) := goodIn_app (goodIn_of _ (by decide +kernel)) ggX8_howManyRows_X4_isMissing
theorem dX8_howManyRows_0 : decode cX8_howManyRows 0 = .ok (.iconst 0, 1) := by decide +kernel
theorem dX8_howManyRows_1 : decode cX8_howManyRows 1 = .ok (.istore_n 1, 1) := by decide +kernel
theorem dX8_howManyRows_2 : decode cX8_howManyRows 2 = .ok (.iconst 0, 1) := by decide +kernel
theorem dX8_howManyRows_3 : decode cX8_howManyRows 3 = .ok (.istore_n 2, 1) := by decide +kernel
theorem dX8_howManyRows_4 : decode cX8_howManyRows 4 = .ok (.iload_n 2, 1) := by decide +kernel
theorem dX8_howManyRows_5 : decode cX8_howManyRows 5 = .ok (.bipush 6, 2) := by decide +kernel
theorem dX8_howManyRows_7 : decode cX8_howManyRows 7 = .ok (.if_icmp .ge 29, 3) := by decide +kernel
theorem dX8_howManyRows_10 : decode cX8_howManyRows 10 = .ok (.iload_n 1, 1) := by decide +kernel
theorem dX8_howManyRows_11 : decode cX8_howManyRows 11 = .ok (.aload_n 0, 1) := by decide +kernel
theorem dX8_howManyRows_12 : decode cX8_howManyRows 12 = .ok (.getfield 11, 3) := by decide +kernel
theorem dX8_howManyRows_15 : decode cX8_howManyRows 15 = .ok (.iload_n 2, 1) := by decide +kernel
theorem dX8_howManyRows_16 : decode cX8_howManyRows 16 = .ok (.aaload, 1) := by decide +kernel
theorem dX8_howManyRows_17 : decode cX8_howManyRows 17 = .ok (.invokevirtual 85, 3) := by decide +kernel
theorem dX8_howManyRows_20 : decode cX8_howManyRows 20 = .ok (.ifCond .eq 7, 3) := by decide +kernel
theorem dX8_howManyRows_23 : decode cX8_howManyRows 23 = .ok (.iconst 0, 1) := by decide +kernel
theorem dX8_howManyRows_24 : decode cX8_howManyRows 24 = .ok (.goto 4, 3) := by decide +kernel
theorem dX8_howManyRows_27 : decode cX8_howManyRows 27 = .ok (.iconst 1, 1) := by decide +kernel
theorem dX8_howManyRows_28 : decode cX8_howManyRows 28 = .ok (.iadd, 1) := by decide +kernel
theorem dX8_howManyRows_29 : decode cX8_howManyRows 29 = .ok (.istore_n 1, 1) := by decide +kernel
theorem dX8_howManyRows_30 : decode cX8_howManyRows 30 = .ok (.iinc 2 1, 3) := by decide +kernel
theorem dX8_howManyRows_33 : decode cX8_howManyRows 33 = .ok (.goto (-29), 3) := by decide +kernel
theorem dX8_howManyRows_36 : decode cX8_howManyRows 36 = .ok (.iload_n 1, 1) := by decide +kernel
theorem dX8_howManyRows_37 : decode cX8_howManyRows 37 = .ok (.ireturn, 1) := by decide +kernel
set_option maxRecDepth 20000 in
theorem ggX8_howManyTexts_X7_isMissing : GoodIn wsX8_howManyTexts wsX7_isMissing := goodIn_r _ [6, 7, 20, 21] (by decide +kernel) (by decide +kernel)
set_option maxRecDepth 20000 in
theorem gX8_howManyTexts_X7_isMissing : GoodIn wsX8_howManyTexts (wsV RX8 117 RX7 yX7_isMissing wsX7_isMissing) := goodIn_app (goodIn_of _ (by decide +kernel)) ggX8_howManyTexts_X7_isMissing
theorem dX8_howManyTexts_0 : decode cX8_howManyTexts 0 = .ok (.iconst 0, 1) := by decide +kernel
theorem dX8_howManyTexts_1 : decode cX8_howManyTexts 1 = .ok (.istore_n 1, 1) := by decide +kernel
theorem dX8_howManyTexts_2 : decode cX8_howManyTexts 2 = .ok (.iconst 0, 1) := by decide +kernel
theorem dX8_howManyTexts_3 : decode cX8_howManyTexts 3 = .ok (.istore_n 2, 1) := by decide +kernel
theorem dX8_howManyTexts_4 : decode cX8_howManyTexts 4 = .ok (.iload_n 2, 1) := by decide +kernel
theorem dX8_howManyTexts_5 : decode cX8_howManyTexts 5 = .ok (.iconst 4, 1) := by decide +kernel
theorem dX8_howManyTexts_6 : decode cX8_howManyTexts 6 = .ok (.if_icmp .ge 29, 3) := by decide +kernel
theorem dX8_howManyTexts_9 : decode cX8_howManyTexts 9 = .ok (.iload_n 1, 1) := by decide +kernel
theorem dX8_howManyTexts_10 : decode cX8_howManyTexts 10 = .ok (.aload_n 0, 1) := by decide +kernel
theorem dX8_howManyTexts_11 : decode cX8_howManyTexts 11 = .ok (.getfield 17, 3) := by decide +kernel
theorem dX8_howManyTexts_14 : decode cX8_howManyTexts 14 = .ok (.iload_n 2, 1) := by decide +kernel
theorem dX8_howManyTexts_15 : decode cX8_howManyTexts 15 = .ok (.aaload, 1) := by decide +kernel
theorem dX8_howManyTexts_16 : decode cX8_howManyTexts 16 = .ok (.invokevirtual 117, 3) := by decide +kernel
theorem dX8_howManyTexts_19 : decode cX8_howManyTexts 19 = .ok (.ifCond .eq 7, 3) := by decide +kernel
theorem dX8_howManyTexts_22 : decode cX8_howManyTexts 22 = .ok (.iconst 0, 1) := by decide +kernel
theorem dX8_howManyTexts_23 : decode cX8_howManyTexts 23 = .ok (.goto 4, 3) := by decide +kernel
theorem dX8_howManyTexts_26 : decode cX8_howManyTexts 26 = .ok (.iconst 1, 1) := by decide +kernel
theorem dX8_howManyTexts_27 : decode cX8_howManyTexts 27 = .ok (.iadd, 1) := by decide +kernel
theorem dX8_howManyTexts_28 : decode cX8_howManyTexts 28 = .ok (.istore_n 1, 1) := by decide +kernel
theorem dX8_howManyTexts_29 : decode cX8_howManyTexts 29 = .ok (.iinc 2 1, 3) := by decide +kernel
theorem dX8_howManyTexts_32 : decode cX8_howManyTexts 32 = .ok (.goto (-28), 3) := by decide +kernel
theorem dX8_howManyTexts_35 : decode cX8_howManyTexts 35 = .ok (.iload_n 1, 1) := by decide +kernel
theorem dX8_howManyTexts_36 : decode cX8_howManyTexts 36 = .ok (.ireturn, 1) := by decide +kernel
theorem dX8_howManyKept_0 : decode cX8_howManyKept 0 = .ok (.iconst 0, 1) := by decide +kernel
theorem dX8_howManyKept_1 : decode cX8_howManyKept 1 = .ok (.istore_n 1, 1) := by decide +kernel
theorem dX8_howManyKept_2 : decode cX8_howManyKept 2 = .ok (.iconst 0, 1) := by decide +kernel
theorem dX8_howManyKept_3 : decode cX8_howManyKept 3 = .ok (.istore_n 2, 1) := by decide +kernel
theorem dX8_howManyKept_4 : decode cX8_howManyKept 4 = .ok (.iload_n 2, 1) := by decide +kernel
theorem dX8_howManyKept_5 : decode cX8_howManyKept 5 = .ok (.iconst 3, 1) := by decide +kernel
theorem dX8_howManyKept_6 : decode cX8_howManyKept 6 = .ok (.if_icmp .ge 26, 3) := by decide +kernel
theorem dX8_howManyKept_9 : decode cX8_howManyKept 9 = .ok (.iload_n 1, 1) := by decide +kernel
theorem dX8_howManyKept_10 : decode cX8_howManyKept 10 = .ok (.aload_n 0, 1) := by decide +kernel
theorem dX8_howManyKept_11 : decode cX8_howManyKept 11 = .ok (.getfield 35, 3) := by decide +kernel
theorem dX8_howManyKept_14 : decode cX8_howManyKept 14 = .ok (.iload_n 2, 1) := by decide +kernel
theorem dX8_howManyKept_15 : decode cX8_howManyKept 15 = .ok (.baload, 1) := by decide +kernel
theorem dX8_howManyKept_16 : decode cX8_howManyKept 16 = .ok (.ifCond .eq 7, 3) := by decide +kernel
theorem dX8_howManyKept_19 : decode cX8_howManyKept 19 = .ok (.iconst 1, 1) := by decide +kernel
theorem dX8_howManyKept_20 : decode cX8_howManyKept 20 = .ok (.goto 4, 3) := by decide +kernel
theorem dX8_howManyKept_23 : decode cX8_howManyKept 23 = .ok (.iconst 0, 1) := by decide +kernel
theorem dX8_howManyKept_24 : decode cX8_howManyKept 24 = .ok (.iadd, 1) := by decide +kernel
theorem dX8_howManyKept_25 : decode cX8_howManyKept 25 = .ok (.istore_n 1, 1) := by decide +kernel
theorem dX8_howManyKept_26 : decode cX8_howManyKept 26 = .ok (.iinc 2 1, 3) := by decide +kernel
theorem dX8_howManyKept_29 : decode cX8_howManyKept 29 = .ok (.goto (-25), 3) := by decide +kernel
theorem dX8_howManyKept_32 : decode cX8_howManyKept 32 = .ok (.iload_n 1, 1) := by decide +kernel
theorem dX8_howManyKept_33 : decode cX8_howManyKept 33 = .ok (.ireturn, 1) := by decide +kernel
theorem dJ6_bitCount_0f7a4_0 : decode cJ6_bitCount_0f7a4 0 = .ok (.iload_n 0, 1) := by decide +kernel
theorem dJ6_bitCount_0f7a4_1 : decode cJ6_bitCount_0f7a4 1 = .ok (.iload_n 0, 1) := by decide +kernel
theorem dJ6_bitCount_0f7a4_2 : decode cJ6_bitCount_0f7a4 2 = .ok (.iconst 1, 1) := by decide +kernel
theorem dJ6_bitCount_0f7a4_3 : decode cJ6_bitCount_0f7a4 3 = .ok (.iushr, 1) := by decide +kernel
theorem dJ6_bitCount_0f7a4_4 : decode cJ6_bitCount_0f7a4 4 = .ok (.ldc_w 265, 3) := by decide +kernel
theorem dJ6_bitCount_0f7a4_7 : decode cJ6_bitCount_0f7a4 7 = .ok (.iand, 1) := by decide +kernel
theorem dJ6_bitCount_0f7a4_8 : decode cJ6_bitCount_0f7a4 8 = .ok (.isub, 1) := by decide +kernel
theorem dJ6_bitCount_0f7a4_9 : decode cJ6_bitCount_0f7a4 9 = .ok (.istore_n 0, 1) := by decide +kernel
theorem dJ6_bitCount_0f7a4_10 : decode cJ6_bitCount_0f7a4 10 = .ok (.iload_n 0, 1) := by decide +kernel
theorem dJ6_bitCount_0f7a4_11 : decode cJ6_bitCount_0f7a4 11 = .ok (.ldc_w 266, 3) := by decide +kernel
theorem dJ6_bitCount_0f7a4_14 : decode cJ6_bitCount_0f7a4 14 = .ok (.iand, 1) := by decide +kernel
theorem dJ6_bitCount_0f7a4_15 : decode cJ6_bitCount_0f7a4 15 = .ok (.iload_n 0, 1) := by decide +kernel
theorem dJ6_bitCount_0f7a4_16 : decode cJ6_bitCount_0f7a4 16 = .ok (.iconst 2, 1) := by decide +kernel
theorem dJ6_bitCount_0f7a4_17 : decode cJ6_bitCount_0f7a4 17 = .ok (.iushr, 1) := by decide +kernel
theorem dJ6_bitCount_0f7a4_18 : decode cJ6_bitCount_0f7a4 18 = .ok (.ldc_w 266, 3) := by decide +kernel
theorem dJ6_bitCount_0f7a4_21 : decode cJ6_bitCount_0f7a4 21 = .ok (.iand, 1) := by decide +kernel
theorem dJ6_bitCount_0f7a4_22 : decode cJ6_bitCount_0f7a4 22 = .ok (.iadd, 1) := by decide +kernel
theorem dJ6_bitCount_0f7a4_23 : decode cJ6_bitCount_0f7a4 23 = .ok (.istore_n 0, 1) := by decide +kernel
theorem dJ6_bitCount_0f7a4_24 : decode cJ6_bitCount_0f7a4 24 = .ok (.iload_n 0, 1) := by decide +kernel
theorem dJ6_bitCount_0f7a4_25 : decode cJ6_bitCount_0f7a4 25 = .ok (.iload_n 0, 1) := by decide +kernel
theorem dJ6_bitCount_0f7a4_26 : decode cJ6_bitCount_0f7a4 26 = .ok (.iconst 4, 1) := by decide +kernel
theorem dJ6_bitCount_0f7a4_27 : decode cJ6_bitCount_0f7a4 27 = .ok (.iushr, 1) := by decide +kernel
theorem dJ6_bitCount_0f7a4_28 : decode cJ6_bitCount_0f7a4 28 = .ok (.iadd, 1) := by decide +kernel
theorem dJ6_bitCount_0f7a4_29 : decode cJ6_bitCount_0f7a4 29 = .ok (.ldc_w 267, 3) := by decide +kernel
theorem dJ6_bitCount_0f7a4_32 : decode cJ6_bitCount_0f7a4 32 = .ok (.iand, 1) := by decide +kernel
theorem dJ6_bitCount_0f7a4_33 : decode cJ6_bitCount_0f7a4 33 = .ok (.istore_n 0, 1) := by decide +kernel
theorem dJ6_bitCount_0f7a4_34 : decode cJ6_bitCount_0f7a4 34 = .ok (.iload_n 0, 1) := by decide +kernel
theorem dJ6_bitCount_0f7a4_35 : decode cJ6_bitCount_0f7a4 35 = .ok (.iload_n 0, 1) := by decide +kernel
theorem dJ6_bitCount_0f7a4_36 : decode cJ6_bitCount_0f7a4 36 = .ok (.bipush 8, 2) := by decide +kernel
theorem dJ6_bitCount_0f7a4_38 : decode cJ6_bitCount_0f7a4 38 = .ok (.iushr, 1) := by decide +kernel
theorem dJ6_bitCount_0f7a4_39 : decode cJ6_bitCount_0f7a4 39 = .ok (.iadd, 1) := by decide +kernel
theorem dJ6_bitCount_0f7a4_40 : decode cJ6_bitCount_0f7a4 40 = .ok (.istore_n 0, 1) := by decide +kernel
theorem dJ6_bitCount_0f7a4_41 : decode cJ6_bitCount_0f7a4 41 = .ok (.iload_n 0, 1) := by decide +kernel
theorem dJ6_bitCount_0f7a4_42 : decode cJ6_bitCount_0f7a4 42 = .ok (.iload_n 0, 1) := by decide +kernel
theorem dJ6_bitCount_0f7a4_43 : decode cJ6_bitCount_0f7a4 43 = .ok (.bipush 16, 2) := by decide +kernel
theorem dJ6_bitCount_0f7a4_45 : decode cJ6_bitCount_0f7a4 45 = .ok (.iushr, 1) := by decide +kernel
theorem dJ6_bitCount_0f7a4_46 : decode cJ6_bitCount_0f7a4 46 = .ok (.iadd, 1) := by decide +kernel
theorem dJ6_bitCount_0f7a4_47 : decode cJ6_bitCount_0f7a4 47 = .ok (.istore_n 0, 1) := by decide +kernel
theorem dJ6_bitCount_0f7a4_48 : decode cJ6_bitCount_0f7a4 48 = .ok (.iload_n 0, 1) := by decide +kernel
theorem dJ6_bitCount_0f7a4_49 : decode cJ6_bitCount_0f7a4 49 = .ok (.bipush 63, 2) := by decide +kernel
theorem dJ6_bitCount_0f7a4_51 : decode cJ6_bitCount_0f7a4 51 = .ok (.iand, 1) := by decide +kernel
theorem dJ6_bitCount_0f7a4_52 : decode cJ6_bitCount_0f7a4 52 = .ok (.ireturn, 1) := by decide +kernel
theorem dJ9_abs_0f7a4_0 : decode cJ9_abs_0f7a4 0 = .ok (.iload_n 0, 1) := by decide +kernel
theorem dJ9_abs_0f7a4_1 : decode cJ9_abs_0f7a4 1 = .ok (.ifCond .ge 8, 3) := by decide +kernel
theorem dJ9_abs_0f7a4_4 : decode cJ9_abs_0f7a4 4 = .ok (.iload_n 0, 1) := by decide +kernel
theorem dJ9_abs_0f7a4_5 : decode cJ9_abs_0f7a4 5 = .ok (.ineg, 1) := by decide +kernel
theorem dJ9_abs_0f7a4_6 : decode cJ9_abs_0f7a4 6 = .ok (.goto 4, 3) := by decide +kernel
theorem dJ9_abs_0f7a4_9 : decode cJ9_abs_0f7a4 9 = .ok (.iload_n 0, 1) := by decide +kernel
theorem dJ9_abs_0f7a4_10 : decode cJ9_abs_0f7a4 10 = .ok (.ireturn, 1) := by decide +kernel
theorem dJ9_max_7cf53_0 : decode cJ9_max_7cf53 0 = .ok (.iload_n 0, 1) := by decide +kernel
theorem dJ9_max_7cf53_1 : decode cJ9_max_7cf53 1 = .ok (.iload_n 1, 1) := by decide +kernel
theorem dJ9_max_7cf53_2 : decode cJ9_max_7cf53 2 = .ok (.if_icmp .lt 7, 3) := by decide +kernel
theorem dJ9_max_7cf53_5 : decode cJ9_max_7cf53 5 = .ok (.iload_n 0, 1) := by decide +kernel
theorem dJ9_max_7cf53_6 : decode cJ9_max_7cf53 6 = .ok (.goto 4, 3) := by decide +kernel
theorem dJ9_max_7cf53_9 : decode cJ9_max_7cf53 9 = .ok (.iload_n 1, 1) := by decide +kernel
theorem dJ9_max_7cf53_10 : decode cJ9_max_7cf53 10 = .ok (.ireturn, 1) := by decide +kernel
theorem dJ9_min_7cf53_0 : decode cJ9_min_7cf53 0 = .ok (.iload_n 0, 1) := by decide +kernel
theorem dJ9_min_7cf53_1 : decode cJ9_min_7cf53 1 = .ok (.iload_n 1, 1) := by decide +kernel
theorem dJ9_min_7cf53_2 : decode cJ9_min_7cf53 2 = .ok (.if_icmp .gt 7, 3) := by decide +kernel
theorem dJ9_min_7cf53_5 : decode cJ9_min_7cf53 5 = .ok (.iload_n 0, 1) := by decide +kernel
theorem dJ9_min_7cf53_6 : decode cJ9_min_7cf53 6 = .ok (.goto 4, 3) := by decide +kernel
theorem dJ9_min_7cf53_9 : decode cJ9_min_7cf53 9 = .ok (.iload_n 1, 1) := by decide +kernel
theorem dJ9_min_7cf53_10 : decode cJ9_min_7cf53 10 = .ok (.ireturn, 1) := by decide +kernel
theorem dL_cell_0 : decode cL_cell 0 = .ok (.iload_n 1, 1) := by decide +kernel
theorem dL_cell_1 : decode cL_cell 1 = .ok (.aload_n 0, 1) := by decide +kernel
theorem dL_cell_2 : decode cL_cell 2 = .ok (.arraylength, 1) := by decide +kernel
theorem dL_cell_3 : decode cL_cell 3 = .ok (.if_icmp .ge 9, 3) := by decide +kernel
theorem dL_cell_6 : decode cL_cell 6 = .ok (.aload_n 0, 1) := by decide +kernel
theorem dL_cell_7 : decode cL_cell 7 = .ok (.iload_n 1, 1) := by decide +kernel
theorem dL_cell_8 : decode cL_cell 8 = .ok (.iaload, 1) := by decide +kernel
theorem dL_cell_9 : decode cL_cell 9 = .ok (.goto 9, 3) := by decide +kernel
theorem dL_cell_12 : decode cL_cell 12 = .ok (.ldc 7, 2) := by decide +kernel
theorem dL_cell_14 : decode cL_cell 14 = .ok (.iload_n 1, 1) := by decide +kernel
theorem dL_cell_15 : decode cL_cell 15 = .ok (.iconst 3, 1) := by decide +kernel
theorem dL_cell_16 : decode cL_cell 16 = .ok (.iadd, 1) := by decide +kernel
theorem dL_cell_17 : decode cL_cell 17 = .ok (.imul, 1) := by decide +kernel
theorem dL_cell_18 : decode cL_cell 18 = .ok (.ireturn, 1) := by decide +kernel
theorem dL_some_0 : decode cL_some 0 = .ok (.iload_n 0, 1) := by decide +kernel
theorem dL_some_1 : decode cL_some 1 = .ok (.ldc 8, 2) := by decide +kernel
theorem dL_some_3 : decode cL_some 3 = .ok (.iand, 1) := by decide +kernel
theorem dL_some_4 : decode cL_some 4 = .ok (.iload_n 1, 1) := by decide +kernel
theorem dL_some_5 : decode cL_some 5 = .ok (.irem, 1) := by decide +kernel
theorem dL_some_6 : decode cL_some 6 = .ok (.ireturn, 1) := by decide +kernel
theorem dL_size_0 : decode cL_size 0 = .ok (.iconst 0, 1) := by decide +kernel
theorem dL_size_1 : decode cL_size 1 = .ok (.istore_n 1, 1) := by decide +kernel
theorem dL_size_2 : decode cL_size 2 = .ok (.iconst 0, 1) := by decide +kernel
theorem dL_size_3 : decode cL_size 3 = .ok (.istore_n 2, 1) := by decide +kernel
theorem dL_size_4 : decode cL_size 4 = .ok (.iload_n 2, 1) := by decide +kernel
theorem dL_size_5 : decode cL_size 5 = .ok (.bipush 8, 2) := by decide +kernel
theorem dL_size_7 : decode cL_size 7 = .ok (.if_icmp .ge 17, 3) := by decide +kernel
theorem dL_size_10 : decode cL_size 10 = .ok (.iload_n 1, 1) := by decide +kernel
theorem dL_size_11 : decode cL_size 11 = .ok (.iload_n 0, 1) := by decide +kernel
theorem dL_size_12 : decode cL_size 12 = .ok (.iload_n 2, 1) := by decide +kernel
theorem dL_size_13 : decode cL_size 13 = .ok (.ishr, 1) := by decide +kernel
theorem dL_size_14 : decode cL_size 14 = .ok (.iconst 1, 1) := by decide +kernel
theorem dL_size_15 : decode cL_size 15 = .ok (.iand, 1) := by decide +kernel
theorem dL_size_16 : decode cL_size 16 = .ok (.iadd, 1) := by decide +kernel
theorem dL_size_17 : decode cL_size 17 = .ok (.istore_n 1, 1) := by decide +kernel
theorem dL_size_18 : decode cL_size 18 = .ok (.iinc 2 1, 3) := by decide +kernel
theorem dL_size_21 : decode cL_size 21 = .ok (.goto (-17), 3) := by decide +kernel
theorem dL_size_24 : decode cL_size 24 = .ok (.iload_n 1, 1) := by decide +kernel
theorem dL_size_25 : decode cL_size 25 = .ok (.ireturn, 1) := by decide +kernel
theorem dL_letter_0 : decode cL_letter 0 = .ok (.iload_n 0, 1) := by decide +kernel
theorem dL_letter_1 : decode cL_letter 1 = .ok (.ifCond .ne 8, 3) := by decide +kernel
theorem dL_letter_4 : decode cL_letter 4 = .ok (.bipush 111, 2) := by decide +kernel
theorem dL_letter_6 : decode cL_letter 6 = .ok (.goto 45, 3) := by decide +kernel
theorem dL_letter_9 : decode cL_letter 9 = .ok (.iload_n 0, 1) := by decide +kernel
theorem dL_letter_10 : decode cL_letter 10 = .ok (.iconst 1, 1) := by decide +kernel
theorem dL_letter_11 : decode cL_letter 11 = .ok (.if_icmp .ne 8, 3) := by decide +kernel
theorem dL_letter_14 : decode cL_letter 14 = .ok (.bipush 108, 2) := by decide +kernel
theorem dL_letter_16 : decode cL_letter 16 = .ok (.goto 35, 3) := by decide +kernel
theorem dL_letter_19 : decode cL_letter 19 = .ok (.iload_n 0, 1) := by decide +kernel
theorem dL_letter_20 : decode cL_letter 20 = .ok (.iconst 2, 1) := by decide +kernel
theorem dL_letter_21 : decode cL_letter 21 = .ok (.if_icmp .ne 8, 3) := by decide +kernel
theorem dL_letter_24 : decode cL_letter 24 = .ok (.bipush 119, 2) := by decide +kernel
theorem dL_letter_26 : decode cL_letter 26 = .ok (.goto 25, 3) := by decide +kernel
theorem dL_letter_29 : decode cL_letter 29 = .ok (.iload_n 0, 1) := by decide +kernel
theorem dL_letter_30 : decode cL_letter 30 = .ok (.iconst 3, 1) := by decide +kernel
theorem dL_letter_31 : decode cL_letter 31 = .ok (.if_icmp .ne 8, 3) := by decide +kernel
theorem dL_letter_34 : decode cL_letter 34 = .ok (.bipush 100, 2) := by decide +kernel
theorem dL_letter_36 : decode cL_letter 36 = .ok (.goto 15, 3) := by decide +kernel
theorem dL_letter_39 : decode cL_letter 39 = .ok (.iload_n 0, 1) := by decide +kernel
theorem dL_letter_40 : decode cL_letter 40 = .ok (.iconst 4, 1) := by decide +kernel
theorem dL_letter_41 : decode cL_letter 41 = .ok (.if_icmp .ne 8, 3) := by decide +kernel
theorem dL_letter_44 : decode cL_letter 44 = .ok (.bipush 115, 2) := by decide +kernel
theorem dL_letter_46 : decode cL_letter 46 = .ok (.goto 5, 3) := by decide +kernel
theorem dL_letter_49 : decode cL_letter 49 = .ok (.bipush 105, 2) := by decide +kernel
theorem dL_letter_51 : decode cL_letter 51 = .ok (.ireturn, 1) := by decide +kernel
set_option maxRecDepth 20000 in
theorem ggL_build_L_cell : GoodIn wsL_build wsL_cell := goodIn_r _ [5, 6] (by decide +kernel) (by decide +kernel)
set_option maxRecDepth 20000 in
theorem gL_build_L_cell : GoodIn wsL_build (va_wsS RL 30 yL_cell wsL_cell) := goodIn_app (goodIn_of _ (by decide +kernel)) ggL_build_L_cell
set_option maxRecDepth 20000 in
theorem ggL_build_L_some : GoodIn wsL_build wsL_some := goodIn_r _ [9, 10] (by decide +kernel) (by decide +kernel)
set_option maxRecDepth 20000 in
theorem gL_build_L_some : GoodIn wsL_build (va_wsS RL 34 yL_some wsL_some) := goodIn_app (goodIn_of _ (by decide +kernel)) ggL_build_L_some
set_option maxRecDepth 20000 in
theorem ggL_build_L_letter : GoodIn wsL_build wsL_letter := goodIn_r _ [13] (by decide +kernel) (by decide +kernel)
set_option maxRecDepth 20000 in
theorem gL_build_L_letter : GoodIn wsL_build (va_wsS RL 38 yL_letter wsL_letter) := goodIn_app (goodIn_of _ (by decide +kernel)) ggL_build_L_letter
set_option maxRecDepth 20000 in
theorem ggL_build_X8_text : GoodIn wsL_build wsX8_text := goodIn_r _ [18, 19, 20, 21, 17, 22, 23, 24, 25, 26, 27, 28, 29, 30, 31, 32, 33, 34, 35, 164, 165, 166, 167, 168, 169, 170, 171, 172, 173, 174, 175, 176, 177] (by decide +kernel) (by decide +kernel)
set_option maxRecDepth 20000 in
theorem gL_build_X8_text : GoodIn wsL_build (wsV RL 41 RX8 yX8_text wsX8_text) := goodIn_app (goodIn_of _ (by decide +kernel)) ggL_build_X8_text
set_option maxRecDepth 20000 in
theorem ggL_build_X8_put : GoodIn wsL_build wsX8_put := goodIn_r _ [39, 19, 40, 20, 21, 17, 22, 41, 42, 43, 32, 44, 34, 23, 24, 25, 26, 27, 28, 45, 46, 47, 48, 164, 165, 166, 167, 168, 169, 170, 171, 172, 173, 174, 175, 176, 177] (by decide +kernel) (by decide +kernel)
set_option maxRecDepth 20000 in
theorem gL_build_X8_put : GoodIn wsL_build (wsV RL 46 RX8 yX8_put wsX8_put) := goodIn_app (goodIn_of _ (by decide +kernel)) ggL_build_X8_put
set_option maxRecDepth 20000 in
theorem ggL_build_X8_fault : GoodIn wsL_build wsX8_fault := goodIn_r _ [52, 19, 53, 20, 21, 17, 22, 41, 42, 43, 32, 44, 34, 23, 24, 25, 26, 27, 28, 54, 55, 56, 57, 58, 59, 60, 61, 62, 63, 64, 65, 66, 67, 68, 69, 70, 71, 72, 73, 74, 75, 76, 77, 78, 35, 79, 46, 47, 48, 80, 81, 82, 83, 84, 85, 86, 87, 88, 89, 90, 91, 92, 93, 94, 95, 96, 97, 98, 99, 100, 101, 164, 165, 166, 167, 168, 169, 170, 171, 172, 173, 174, 175, 176, 177, 178, 179, 180, 181, 182, 183, 184, 185, 186, 187, 188, 189, 190, 191, 192, 193, 194] (by decide +kernel) (by decide +kernel)
set_option maxRecDepth 20000 in
theorem gL_build_X8_fault : GoodIn wsL_build (wsV RL 50 RX8 yX8_fault wsX8_fault) := goodIn_app (goodIn_of _ (by decide +kernel)) ggL_build_X8_fault
set_option maxRecDepth 20000 in
theorem ggL_build_X8_street : GoodIn wsL_build wsX8_street := goodIn_r _ [105, 19, 53, 106, 107, 108, 20, 21, 17, 22, 41, 42, 43, 32, 44, 34, 23, 24, 25, 26, 27, 28, 54, 55, 56, 57, 58, 59, 60, 61, 62, 63, 64, 65, 66, 67, 68, 69, 70, 71, 72, 73, 74, 75, 76, 77, 78, 35, 79, 46, 47, 48, 80, 81, 82, 83, 84, 85, 86, 87, 88, 89, 90, 91, 92, 93, 94, 95, 96, 97, 98, 99, 100, 101, 109, 110, 111, 112, 113, 114, 115, 116, 117, 118, 119, 120, 121, 122, 123, 124, 125, 126, 127, 128, 164, 165, 166, 167, 168, 169, 170, 171, 172, 173, 174, 175, 178, 179, 180, 181, 182, 183, 184, 185, 186, 187, 188, 176, 177, 189, 190, 191, 192, 193, 194] (by decide +kernel) (by decide +kernel)
set_option maxRecDepth 20000 in
theorem gL_build_X8_street : GoodIn wsL_build (wsV RL 53 RX8 yX8_street wsX8_street) := goodIn_app (goodIn_of _ (by decide +kernel)) ggL_build_X8_street
set_option maxRecDepth 20000 in
theorem ggL_build_X8_count : GoodIn wsL_build wsX8_count := goodIn_r _ [132, 106, 108, 133, 134, 135, 136, 137, 138, 139, 57, 140, 60, 95, 141, 142, 99, 143, 144, 145, 146, 147, 17, 148, 149, 150, 151, 152, 153, 154, 155, 156, 157, 158, 159, 19, 41, 42, 43, 32, 44, 34, 160, 161, 162, 163, 107, 164, 165, 166, 167, 168, 169, 170, 171, 172, 173, 174, 175, 178, 179, 180, 181, 182, 183, 184, 185, 186, 187, 188, 189, 190, 191, 192, 193, 194, 195, 196, 176, 177] (by decide +kernel) (by decide +kernel)
set_option maxRecDepth 20000 in
theorem gL_build_X8_count : GoodIn wsL_build (wsV RL 56 RX8 yX8_count wsX8_count) := goodIn_app (goodIn_of _ (by decide +kernel)) ggL_build_X8_count
theorem dL_build_0 : decode cL_build 0 = .ok (.aload_n 1, 1) := by decide +kernel
theorem dL_build_1 : decode cL_build 1 = .ok (.iload_n 2, 1) := by decide +kernel
theorem dL_build_2 : decode cL_build 2 = .ok (.invokestatic 30, 3) := by decide +kernel
theorem dL_build_5 : decode cL_build 5 = .ok (.istore 9, 2) := by decide +kernel
theorem dL_build_7 : decode cL_build 7 = .ok (.aload 6, 2) := by decide +kernel
theorem dL_build_9 : decode cL_build 9 = .ok (.iconst 0, 1) := by decide +kernel
theorem dL_build_10 : decode cL_build 10 = .ok (.iload 7, 2) := by decide +kernel
theorem dL_build_12 : decode cL_build 12 = .ok (.iload 9, 2) := by decide +kernel
theorem dL_build_14 : decode cL_build 14 = .ok (.iload 8, 2) := by decide +kernel
theorem dL_build_16 : decode cL_build 16 = .ok (.iload 7, 2) := by decide +kernel
theorem dL_build_18 : decode cL_build 18 = .ok (.isub, 1) := by decide +kernel
theorem dL_build_19 : decode cL_build 19 = .ok (.iconst 1, 1) := by decide +kernel
theorem dL_build_20 : decode cL_build 20 = .ok (.iadd, 1) := by decide +kernel
theorem dL_build_21 : decode cL_build 21 = .ok (.invokestatic 34, 3) := by decide +kernel
theorem dL_build_24 : decode cL_build 24 = .ok (.iadd, 1) := by decide +kernel
theorem dL_build_25 : decode cL_build 25 = .ok (.iastore, 1) := by decide +kernel
theorem dL_build_26 : decode cL_build 26 = .ok (.aload 6, 2) := by decide +kernel
theorem dL_build_28 : decode cL_build 28 = .ok (.iconst 1, 1) := by decide +kernel
theorem dL_build_29 : decode cL_build 29 = .ok (.iconst 1, 1) := by decide +kernel
theorem dL_build_30 : decode cL_build 30 = .ok (.iload 9, 2) := by decide +kernel
theorem dL_build_32 : decode cL_build 32 = .ok (.iconst 3, 1) := by decide +kernel
theorem dL_build_33 : decode cL_build 33 = .ok (.ishr, 1) := by decide +kernel
theorem dL_build_34 : decode cL_build 34 = .ok (.bipush 6, 2) := by decide +kernel
theorem dL_build_36 : decode cL_build 36 = .ok (.invokestatic 34, 3) := by decide +kernel
theorem dL_build_39 : decode cL_build 39 = .ok (.iadd, 1) := by decide +kernel
theorem dL_build_40 : decode cL_build 40 = .ok (.iastore, 1) := by decide +kernel
theorem dL_build_41 : decode cL_build 41 = .ok (.iload 9, 2) := by decide +kernel
theorem dL_build_43 : decode cL_build 43 = .ok (.bipush 6, 2) := by decide +kernel
theorem dL_build_45 : decode cL_build 45 = .ok (.ishr, 1) := by decide +kernel
theorem dL_build_46 : decode cL_build 46 = .ok (.iconst 3, 1) := by decide +kernel
theorem dL_build_47 : decode cL_build 47 = .ok (.invokestatic 34, 3) := by decide +kernel
theorem dL_build_50 : decode cL_build 50 = .ok (.ifCond .ne 8, 3) := by decide +kernel
theorem dL_build_53 : decode cL_build 53 = .ok (.bipush 10, 2) := by decide +kernel
theorem dL_build_55 : decode cL_build 55 = .ok (.goto 4, 3) := by decide +kernel
theorem dL_build_58 : decode cL_build 58 = .ok (.iconst 4, 1) := by decide +kernel
theorem dL_build_59 : decode cL_build 59 = .ok (.istore 10, 2) := by decide +kernel
theorem dL_build_61 : decode cL_build 61 = .ok (.bipush 40, 2) := by decide +kernel
theorem dL_build_63 : decode cL_build 63 = .ok (.newarray .int, 2) := by decide +kernel
theorem dL_build_65 : decode cL_build 65 = .ok (.astore 11, 2) := by decide +kernel
theorem dL_build_67 : decode cL_build 67 = .ok (.iconst 0, 1) := by decide +kernel
theorem dL_build_68 : decode cL_build 68 = .ok (.istore 12, 2) := by decide +kernel
theorem dL_build_70 : decode cL_build 70 = .ok (.aload 11, 2) := by decide +kernel
theorem dL_build_72 : decode cL_build 72 = .ok (.iload 12, 2) := by decide +kernel
theorem dL_build_74 : decode cL_build 74 = .ok (.bipush 112, 2) := by decide +kernel
theorem dL_build_76 : decode cL_build 76 = .ok (.iastore, 1) := by decide +kernel
theorem dL_build_77 : decode cL_build 77 = .ok (.iload 12, 2) := by decide +kernel
theorem dL_build_79 : decode cL_build 79 = .ok (.iconst 1, 1) := by decide +kernel
theorem dL_build_80 : decode cL_build 80 = .ok (.iadd, 1) := by decide +kernel
theorem dL_build_81 : decode cL_build 81 = .ok (.istore 12, 2) := by decide +kernel
theorem dL_build_83 : decode cL_build 83 = .ok (.iconst 0, 1) := by decide +kernel
theorem dL_build_84 : decode cL_build 84 = .ok (.istore 13, 2) := by decide +kernel
theorem dL_build_86 : decode cL_build 86 = .ok (.iload 13, 2) := by decide +kernel
theorem dL_build_88 : decode cL_build 88 = .ok (.bipush 6, 2) := by decide +kernel
theorem dL_build_90 : decode cL_build 90 = .ok (.if_icmp .ge 15, 3) := by decide +kernel
theorem dL_build_93 : decode cL_build 93 = .ok (.aload 5, 2) := by decide +kernel
theorem dL_build_95 : decode cL_build 95 = .ok (.iload 13, 2) := by decide +kernel
theorem dL_build_97 : decode cL_build 97 = .ok (.iconst 0, 1) := by decide +kernel
theorem dL_build_98 : decode cL_build 98 = .ok (.iastore, 1) := by decide +kernel
theorem dL_build_99 : decode cL_build 99 = .ok (.iinc 13 1, 3) := by decide +kernel
theorem dL_build_102 : decode cL_build 102 = .ok (.goto (-16), 3) := by decide +kernel
theorem dL_build_105 : decode cL_build 105 = .ok (.iconst 0, 1) := by decide +kernel
theorem dL_build_106 : decode cL_build 106 = .ok (.istore 13, 2) := by decide +kernel
theorem dL_build_108 : decode cL_build 108 = .ok (.iload 13, 2) := by decide +kernel
theorem dL_build_110 : decode cL_build 110 = .ok (.aload 6, 2) := by decide +kernel
theorem dL_build_112 : decode cL_build 112 = .ok (.iconst 1, 1) := by decide +kernel
theorem dL_build_113 : decode cL_build 113 = .ok (.iaload, 1) := by decide +kernel
theorem dL_build_114 : decode cL_build 114 = .ok (.if_icmp .ge 48, 3) := by decide +kernel
theorem dL_build_117 : decode cL_build 117 = .ok (.aload 5, 2) := by decide +kernel
theorem dL_build_119 : decode cL_build 119 = .ok (.iload 13, 2) := by decide +kernel
theorem dL_build_121 : decode cL_build 121 = .ok (.iload 9, 2) := by decide +kernel
theorem dL_build_123 : decode cL_build 123 = .ok (.bipush 8, 2) := by decide +kernel
theorem dL_build_125 : decode cL_build 125 = .ok (.iconst 3, 1) := by decide +kernel
theorem dL_build_126 : decode cL_build 126 = .ok (.iload 13, 2) := by decide +kernel
theorem dL_build_128 : decode cL_build 128 = .ok (.imul, 1) := by decide +kernel
theorem dL_build_129 : decode cL_build 129 = .ok (.iadd, 1) := by decide +kernel
theorem dL_build_130 : decode cL_build 130 = .ok (.ishr, 1) := by decide +kernel
theorem dL_build_131 : decode cL_build 131 = .ok (.iload 10, 2) := by decide +kernel
theorem dL_build_133 : decode cL_build 133 = .ok (.invokestatic 34, 3) := by decide +kernel
theorem dL_build_136 : decode cL_build 136 = .ok (.iastore, 1) := by decide +kernel
theorem dL_build_137 : decode cL_build 137 = .ok (.aload 11, 2) := by decide +kernel
theorem dL_build_139 : decode cL_build 139 = .ok (.iload 12, 2) := by decide +kernel
theorem dL_build_141 : decode cL_build 141 = .ok (.bipush 48, 2) := by decide +kernel
theorem dL_build_143 : decode cL_build 143 = .ok (.aload 5, 2) := by decide +kernel
theorem dL_build_145 : decode cL_build 145 = .ok (.iload 13, 2) := by decide +kernel
theorem dL_build_147 : decode cL_build 147 = .ok (.iaload, 1) := by decide +kernel
theorem dL_build_148 : decode cL_build 148 = .ok (.iadd, 1) := by decide +kernel
theorem dL_build_149 : decode cL_build 149 = .ok (.iastore, 1) := by decide +kernel
theorem dL_build_150 : decode cL_build 150 = .ok (.iload 12, 2) := by decide +kernel
theorem dL_build_152 : decode cL_build 152 = .ok (.iconst 1, 1) := by decide +kernel
theorem dL_build_153 : decode cL_build 153 = .ok (.iadd, 1) := by decide +kernel
theorem dL_build_154 : decode cL_build 154 = .ok (.istore 12, 2) := by decide +kernel
theorem dL_build_156 : decode cL_build 156 = .ok (.iinc 13 1, 3) := by decide +kernel
theorem dL_build_159 : decode cL_build 159 = .ok (.goto (-51), 3) := by decide +kernel
theorem dL_build_162 : decode cL_build 162 = .ok (.iconst 0, 1) := by decide +kernel
theorem dL_build_163 : decode cL_build 163 = .ok (.istore 13, 2) := by decide +kernel
theorem dL_build_165 : decode cL_build 165 = .ok (.iload 13, 2) := by decide +kernel
theorem dL_build_167 : decode cL_build 167 = .ok (.aload 6, 2) := by decide +kernel
theorem dL_build_169 : decode cL_build 169 = .ok (.iconst 0, 1) := by decide +kernel
theorem dL_build_170 : decode cL_build 170 = .ok (.iaload, 1) := by decide +kernel
theorem dL_build_171 : decode cL_build 171 = .ok (.if_icmp .ge 123, 3) := by decide +kernel
theorem dL_build_174 : decode cL_build 174 = .ok (.aload_n 1, 1) := by decide +kernel
theorem dL_build_175 : decode cL_build 175 = .ok (.iload_n 2, 1) := by decide +kernel
theorem dL_build_176 : decode cL_build 176 = .ok (.iconst 1, 1) := by decide +kernel
theorem dL_build_177 : decode cL_build 177 = .ok (.iadd, 1) := by decide +kernel
theorem dL_build_178 : decode cL_build 178 = .ok (.iload 13, 2) := by decide +kernel
theorem dL_build_180 : decode cL_build 180 = .ok (.iadd, 1) := by decide +kernel
theorem dL_build_181 : decode cL_build 181 = .ok (.invokestatic 30, 3) := by decide +kernel
theorem dL_build_184 : decode cL_build 184 = .ok (.istore 14, 2) := by decide +kernel
theorem dL_build_186 : decode cL_build 186 = .ok (.aload_n 3, 1) := by decide +kernel
theorem dL_build_187 : decode cL_build 187 = .ok (.iload 13, 2) := by decide +kernel
theorem dL_build_189 : decode cL_build 189 = .ok (.iload 14, 2) := by decide +kernel
theorem dL_build_191 : decode cL_build 191 = .ok (.iconst 3, 1) := by decide +kernel
theorem dL_build_192 : decode cL_build 192 = .ok (.invokestatic 34, 3) := by decide +kernel
theorem dL_build_195 : decode cL_build 195 = .ok (.ifCond .ne 7, 3) := by decide +kernel
theorem dL_build_198 : decode cL_build 198 = .ok (.iconst 0, 1) := by decide +kernel
theorem dL_build_199 : decode cL_build 199 = .ok (.goto 12, 3) := by decide +kernel
theorem dL_build_202 : decode cL_build 202 = .ok (.iload 14, 2) := by decide +kernel
theorem dL_build_204 : decode cL_build 204 = .ok (.iconst 2, 1) := by decide +kernel
theorem dL_build_205 : decode cL_build 205 = .ok (.ishr, 1) := by decide +kernel
theorem dL_build_206 : decode cL_build 206 = .ok (.bipush 6, 2) := by decide +kernel
theorem dL_build_208 : decode cL_build 208 = .ok (.invokestatic 34, 3) := by decide +kernel
theorem dL_build_211 : decode cL_build 211 = .ok (.iastore, 1) := by decide +kernel
theorem dL_build_212 : decode cL_build 212 = .ok (.aload 4, 2) := by decide +kernel
theorem dL_build_214 : decode cL_build 214 = .ok (.iload 13, 2) := by decide +kernel
theorem dL_build_216 : decode cL_build 216 = .ok (.iload 14, 2) := by decide +kernel
theorem dL_build_218 : decode cL_build 218 = .ok (.iconst 5, 1) := by decide +kernel
theorem dL_build_219 : decode cL_build 219 = .ok (.ishr, 1) := by decide +kernel
theorem dL_build_220 : decode cL_build 220 = .ok (.aload 6, 2) := by decide +kernel
theorem dL_build_222 : decode cL_build 222 = .ok (.iconst 1, 1) := by decide +kernel
theorem dL_build_223 : decode cL_build 223 = .ok (.iaload, 1) := by decide +kernel
theorem dL_build_224 : decode cL_build 224 = .ok (.iconst 1, 1) := by decide +kernel
theorem dL_build_225 : decode cL_build 225 = .ok (.iadd, 1) := by decide +kernel
theorem dL_build_226 : decode cL_build 226 = .ok (.invokestatic 34, 3) := by decide +kernel
theorem dL_build_229 : decode cL_build 229 = .ok (.iastore, 1) := by decide +kernel
theorem dL_build_230 : decode cL_build 230 = .ok (.iload 14, 2) := by decide +kernel
theorem dL_build_232 : decode cL_build 232 = .ok (.bipush 9, 2) := by decide +kernel
theorem dL_build_234 : decode cL_build 234 = .ok (.ishr, 1) := by decide +kernel
theorem dL_build_235 : decode cL_build 235 = .ok (.iconst 2, 1) := by decide +kernel
theorem dL_build_236 : decode cL_build 236 = .ok (.invokestatic 34, 3) := by decide +kernel
theorem dL_build_239 : decode cL_build 239 = .ok (.ifCond .ne 16, 3) := by decide +kernel
theorem dL_build_242 : decode cL_build 242 = .ok (.aload 11, 2) := by decide +kernel
theorem dL_build_244 : decode cL_build 244 = .ok (.iload 12, 2) := by decide +kernel
theorem dL_build_246 : decode cL_build 246 = .ok (.bipush 32, 2) := by decide +kernel
theorem dL_build_248 : decode cL_build 248 = .ok (.iastore, 1) := by decide +kernel
theorem dL_build_249 : decode cL_build 249 = .ok (.iload 12, 2) := by decide +kernel
theorem dL_build_251 : decode cL_build 251 = .ok (.iconst 1, 1) := by decide +kernel
theorem dL_build_252 : decode cL_build 252 = .ok (.iadd, 1) := by decide +kernel
theorem dL_build_253 : decode cL_build 253 = .ok (.istore 12, 2) := by decide +kernel
theorem dL_build_255 : decode cL_build 255 = .ok (.aload 11, 2) := by decide +kernel
theorem dL_build_257 : decode cL_build 257 = .ok (.iload 12, 2) := by decide +kernel
theorem dL_build_259 : decode cL_build 259 = .ok (.aload_n 3, 1) := by decide +kernel
theorem dL_build_260 : decode cL_build 260 = .ok (.iload 13, 2) := by decide +kernel
theorem dL_build_262 : decode cL_build 262 = .ok (.iaload, 1) := by decide +kernel
theorem dL_build_263 : decode cL_build 263 = .ok (.invokestatic 38, 3) := by decide +kernel
theorem dL_build_266 : decode cL_build 266 = .ok (.iastore, 1) := by decide +kernel
theorem dL_build_267 : decode cL_build 267 = .ok (.aload 11, 2) := by decide +kernel
theorem dL_build_269 : decode cL_build 269 = .ok (.iload 12, 2) := by decide +kernel
theorem dL_build_271 : decode cL_build 271 = .ok (.iconst 1, 1) := by decide +kernel
theorem dL_build_272 : decode cL_build 272 = .ok (.iadd, 1) := by decide +kernel
theorem dL_build_273 : decode cL_build 273 = .ok (.bipush 48, 2) := by decide +kernel
theorem dL_build_275 : decode cL_build 275 = .ok (.aload 4, 2) := by decide +kernel
theorem dL_build_277 : decode cL_build 277 = .ok (.iload 13, 2) := by decide +kernel
theorem dL_build_279 : decode cL_build 279 = .ok (.iaload, 1) := by decide +kernel
theorem dL_build_280 : decode cL_build 280 = .ok (.iadd, 1) := by decide +kernel
theorem dL_build_281 : decode cL_build 281 = .ok (.iastore, 1) := by decide +kernel
theorem dL_build_282 : decode cL_build 282 = .ok (.iload 12, 2) := by decide +kernel
theorem dL_build_284 : decode cL_build 284 = .ok (.iconst 2, 1) := by decide +kernel
theorem dL_build_285 : decode cL_build 285 = .ok (.iadd, 1) := by decide +kernel
theorem dL_build_286 : decode cL_build 286 = .ok (.istore 12, 2) := by decide +kernel
theorem dL_build_288 : decode cL_build 288 = .ok (.iinc 13 1, 3) := by decide +kernel
theorem dL_build_291 : decode cL_build 291 = .ok (.goto (-126), 3) := by decide +kernel
theorem dL_build_294 : decode cL_build 294 = .ok (.aload_n 0, 1) := by decide +kernel
theorem dL_build_295 : decode cL_build 295 = .ok (.iconst 0, 1) := by decide +kernel
theorem dL_build_296 : decode cL_build 296 = .ok (.iload 12, 2) := by decide +kernel
theorem dL_build_298 : decode cL_build 298 = .ok (.invokevirtual 41, 3) := by decide +kernel
theorem dL_build_301 : decode cL_build 301 = .ok (.iload 12, 2) := by decide +kernel
theorem dL_build_303 : decode cL_build 303 = .ok (.if_icmp .ne 7, 3) := by decide +kernel
theorem dL_build_306 : decode cL_build 306 = .ok (.iconst 1, 1) := by decide +kernel
theorem dL_build_307 : decode cL_build 307 = .ok (.goto 4, 3) := by decide +kernel
theorem dL_build_310 : decode cL_build 310 = .ok (.iconst 0, 1) := by decide +kernel
