theorem dX0_init_0 : decode cX0_init 0 = .ok (.aload_n 0, 1) := by decide +kernel
theorem dX0_init_1 : decode cX0_init 1 = .ok (.invokespecial 3, 3) := by decide +kernel
theorem dX0_init_4 : decode cX0_init 4 = .ok (.aload_n 0, 1) := by decide +kernel
theorem dX0_init_5 : decode cX0_init 5 = .ok (.bipush 7, 2) := by decide +kernel
theorem dX0_init_7 : decode cX0_init 7 = .ok (.newarray .int, 2) := by decide +kernel
theorem dX0_init_9 : decode cX0_init 9 = .ok (.putfield 11, 3) := by decide +kernel
theorem dX0_init_12 : decode cX0_init 12 = .ok (.aload_n 0, 1) := by decide +kernel
theorem dX0_init_13 : decode cX0_init 13 = .ok (.bipush 7, 2) := by decide +kernel
theorem dX0_init_15 : decode cX0_init 15 = .ok (.newarray .int, 2) := by decide +kernel
theorem dX0_init_17 : decode cX0_init 17 = .ok (.putfield 17, 3) := by decide +kernel
theorem dX0_init_20 : decode cX0_init 20 = .ok (.return_, 1) := by decide +kernel
theorem dX1_init_0 : decode cX1_init 0 = .ok (.aload_n 0, 1) := by decide +kernel
theorem dX1_init_1 : decode cX1_init 1 = .ok (.invokespecial 1, 3) := by decide +kernel
theorem dX1_init_4 : decode cX1_init 4 = .ok (.aload_n 0, 1) := by decide +kernel
theorem dX1_init_5 : decode cX1_init 5 = .ok (.bipush 40, 2) := by decide +kernel
theorem dX1_init_7 : decode cX1_init 7 = .ok (.newarray .int, 2) := by decide +kernel
theorem dX1_init_9 : decode cX1_init 9 = .ok (.putfield 9, 3) := by decide +kernel
theorem dX1_init_12 : decode cX1_init 12 = .ok (.aload_n 0, 1) := by decide +kernel
theorem dX1_init_13 : decode cX1_init 13 = .ok (.bipush 40, 2) := by decide +kernel
theorem dX1_init_15 : decode cX1_init 15 = .ok (.newarray .int, 2) := by decide +kernel
theorem dX1_init_17 : decode cX1_init 17 = .ok (.putfield 13, 3) := by decide +kernel
theorem dX1_init_20 : decode cX1_init 20 = .ok (.aload_n 0, 1) := by decide +kernel
theorem dX1_init_21 : decode cX1_init 21 = .ok (.bipush 40, 2) := by decide +kernel
theorem dX1_init_23 : decode cX1_init 23 = .ok (.newarray .int, 2) := by decide +kernel
theorem dX1_init_25 : decode cX1_init 25 = .ok (.putfield 16, 3) := by decide +kernel
theorem dX1_init_28 : decode cX1_init 28 = .ok (.aload_n 0, 1) := by decide +kernel
theorem dX1_init_29 : decode cX1_init 29 = .ok (.bipush 40, 2) := by decide +kernel
theorem dX1_init_31 : decode cX1_init 31 = .ok (.newarray .long, 2) := by decide +kernel
theorem dX1_init_33 : decode cX1_init 33 = .ok (.putfield 19, 3) := by decide +kernel
theorem dX1_init_36 : decode cX1_init 36 = .ok (.return_, 1) := by decide +kernel
theorem dX1_begin_0 : decode cX1_begin 0 = .ok (.aload_n 0, 1) := by decide +kernel
theorem dX1_begin_1 : decode cX1_begin 1 = .ok (.lconst 0, 1) := by decide +kernel
theorem dX1_begin_2 : decode cX1_begin 2 = .ok (.putfield 23, 3) := by decide +kernel
theorem dX1_begin_5 : decode cX1_begin 5 = .ok (.aload_n 0, 1) := by decide +kernel
theorem dX1_begin_6 : decode cX1_begin 6 = .ok (.iconst 0, 1) := by decide +kernel
theorem dX1_begin_7 : decode cX1_begin 7 = .ok (.putfield 27, 3) := by decide +kernel
theorem dX1_begin_10 : decode cX1_begin 10 = .ok (.return_, 1) := by decide +kernel
theorem dX1_become_0 : decode cX1_become 0 = .ok (.aload_n 1, 1) := by decide +kernel
theorem dX1_become_1 : decode cX1_become 1 = .ok (.getfield 9, 3) := by decide +kernel
theorem dX1_become_4 : decode cX1_become 4 = .ok (.iconst 0, 1) := by decide +kernel
theorem dX1_become_5 : decode cX1_become 5 = .ok (.aload_n 0, 1) := by decide +kernel
theorem dX1_become_6 : decode cX1_become 6 = .ok (.getfield 9, 3) := by decide +kernel
theorem dX1_become_9 : decode cX1_become 9 = .ok (.iconst 0, 1) := by decide +kernel
theorem dX1_become_10 : decode cX1_become 10 = .ok (.bipush 40, 2) := by decide +kernel
theorem dX1_become_12 : decode cX1_become 12 = .ok (.invokestatic 31, 3) := by decide +kernel
theorem dX1_become_15 : decode cX1_become 15 = .ok (.aload_n 1, 1) := by decide +kernel
theorem dX1_become_16 : decode cX1_become 16 = .ok (.getfield 13, 3) := by decide +kernel
theorem dX1_become_19 : decode cX1_become 19 = .ok (.iconst 0, 1) := by decide +kernel
theorem dX1_become_20 : decode cX1_become 20 = .ok (.aload_n 0, 1) := by decide +kernel
theorem dX1_become_21 : decode cX1_become 21 = .ok (.getfield 13, 3) := by decide +kernel
theorem dX1_become_24 : decode cX1_become 24 = .ok (.iconst 0, 1) := by decide +kernel
theorem dX1_become_25 : decode cX1_become 25 = .ok (.bipush 40, 2) := by decide +kernel
theorem dX1_become_27 : decode cX1_become 27 = .ok (.invokestatic 31, 3) := by decide +kernel
theorem dX1_become_30 : decode cX1_become 30 = .ok (.aload_n 1, 1) := by decide +kernel
theorem dX1_become_31 : decode cX1_become 31 = .ok (.getfield 16, 3) := by decide +kernel
theorem dX1_become_34 : decode cX1_become 34 = .ok (.iconst 0, 1) := by decide +kernel
theorem dX1_become_35 : decode cX1_become 35 = .ok (.aload_n 0, 1) := by decide +kernel
theorem dX1_become_36 : decode cX1_become 36 = .ok (.getfield 16, 3) := by decide +kernel
theorem dX1_become_39 : decode cX1_become 39 = .ok (.iconst 0, 1) := by decide +kernel
theorem dX1_become_40 : decode cX1_become 40 = .ok (.bipush 40, 2) := by decide +kernel
theorem dX1_become_42 : decode cX1_become 42 = .ok (.invokestatic 31, 3) := by decide +kernel
theorem dX1_become_45 : decode cX1_become 45 = .ok (.aload_n 1, 1) := by decide +kernel
theorem dX1_become_46 : decode cX1_become 46 = .ok (.getfield 19, 3) := by decide +kernel
theorem dX1_become_49 : decode cX1_become 49 = .ok (.iconst 0, 1) := by decide +kernel
theorem dX1_become_50 : decode cX1_become 50 = .ok (.aload_n 0, 1) := by decide +kernel
theorem dX1_become_51 : decode cX1_become 51 = .ok (.getfield 19, 3) := by decide +kernel
theorem dX1_become_54 : decode cX1_become 54 = .ok (.iconst 0, 1) := by decide +kernel
theorem dX1_become_55 : decode cX1_become 55 = .ok (.bipush 40, 2) := by decide +kernel
theorem dX1_become_57 : decode cX1_become 57 = .ok (.invokestatic 31, 3) := by decide +kernel
theorem dX1_become_60 : decode cX1_become 60 = .ok (.aload_n 0, 1) := by decide +kernel
theorem dX1_become_61 : decode cX1_become 61 = .ok (.aload_n 1, 1) := by decide +kernel
theorem dX1_become_62 : decode cX1_become 62 = .ok (.getfield 23, 3) := by decide +kernel
theorem dX1_become_65 : decode cX1_become 65 = .ok (.putfield 23, 3) := by decide +kernel
theorem dX1_become_68 : decode cX1_become 68 = .ok (.aload_n 0, 1) := by decide +kernel
theorem dX1_become_69 : decode cX1_become 69 = .ok (.aload_n 1, 1) := by decide +kernel
theorem dX1_become_70 : decode cX1_become 70 = .ok (.getfield 27, 3) := by decide +kernel
theorem dX1_become_73 : decode cX1_become 73 = .ok (.putfield 27, 3) := by decide +kernel
theorem dX1_become_76 : decode cX1_become 76 = .ok (.return_, 1) := by decide +kernel
theorem dX1_whoKnow_0 : decode cX1_whoKnow 0 = .ok (.aload_n 0, 1) := by decide +kernel
theorem dX1_whoKnow_1 : decode cX1_whoKnow 1 = .ok (.getfield 23, 3) := by decide +kernel
theorem dX1_whoKnow_4 : decode cX1_whoKnow 4 = .ok (.bipush 8, 2) := by decide +kernel
theorem dX1_whoKnow_6 : decode cX1_whoKnow 6 = .ok (.iload_n 1, 1) := by decide +kernel
theorem dX1_whoKnow_7 : decode cX1_whoKnow 7 = .ok (.imul, 1) := by decide +kernel
theorem dX1_whoKnow_8 : decode cX1_whoKnow 8 = .ok (.lushr, 1) := by decide +kernel
theorem dX1_whoKnow_9 : decode cX1_whoKnow 9 = .ok (.l2i, 1) := by decide +kernel
theorem dX1_whoKnow_10 : decode cX1_whoKnow 10 = .ok (.sipush 255, 3) := by decide +kernel
theorem dX1_whoKnow_13 : decode cX1_whoKnow 13 = .ok (.iand, 1) := by decide +kernel
theorem dX1_whoKnow_14 : decode cX1_whoKnow 14 = .ok (.ireturn, 1) := by decide +kernel
theorem dX1_learn_0 : decode cX1_learn 0 = .ok (.aload_n 0, 1) := by decide +kernel
theorem dX1_learn_1 : decode cX1_learn 1 = .ok (.dup, 1) := by decide +kernel
theorem dX1_learn_2 : decode cX1_learn 2 = .ok (.getfield 23, 3) := by decide +kernel
theorem dX1_learn_5 : decode cX1_learn 5 = .ok (.iload_n 2, 1) := by decide +kernel
theorem dX1_learn_6 : decode cX1_learn 6 = .ok (.i2l, 1) := by decide +kernel
theorem dX1_learn_7 : decode cX1_learn 7 = .ok (.bipush 8, 2) := by decide +kernel
theorem dX1_learn_9 : decode cX1_learn 9 = .ok (.iload_n 1, 1) := by decide +kernel
theorem dX1_learn_10 : decode cX1_learn 10 = .ok (.imul, 1) := by decide +kernel
theorem dX1_learn_11 : decode cX1_learn 11 = .ok (.lshl, 1) := by decide +kernel
theorem dX1_learn_12 : decode cX1_learn 12 = .ok (.lor, 1) := by decide +kernel
theorem dX1_learn_13 : decode cX1_learn 13 = .ok (.putfield 23, 3) := by decide +kernel
theorem dX1_learn_16 : decode cX1_learn 16 = .ok (.return_, 1) := by decide +kernel
set_option maxRecDepth 20000 in
theorem ggX1_add_X1_learn : GoodIn wsX1_add wsX1_learn := goodIn_r _ [11, 6, 12, 13, 14, 15, 16, 17] (by decide +kernel) (by decide +kernel)
set_option maxRecDepth 20000 in
theorem gX1_add_X1_learn : GoodIn wsX1_add (wsV RX1 41 RX1 yX1_learn wsX1_learn) := goodIn_app (goodIn_of _ (by decide +kernel)) ggX1_add_X1_learn
theorem dX1_add_0 : decode cX1_add 0 = .ok (.aload_n 0, 1) := by decide +kernel
theorem dX1_add_1 : decode cX1_add 1 = .ok (.getfield 9, 3) := by decide +kernel
theorem dX1_add_4 : decode cX1_add 4 = .ok (.aload_n 0, 1) := by decide +kernel
theorem dX1_add_5 : decode cX1_add 5 = .ok (.getfield 27, 3) := by decide +kernel
theorem dX1_add_8 : decode cX1_add 8 = .ok (.iload_n 1, 1) := by decide +kernel
theorem dX1_add_9 : decode cX1_add 9 = .ok (.iastore, 1) := by decide +kernel
theorem dX1_add_10 : decode cX1_add 10 = .ok (.aload_n 0, 1) := by decide +kernel
theorem dX1_add_11 : decode cX1_add 11 = .ok (.getfield 13, 3) := by decide +kernel
theorem dX1_add_14 : decode cX1_add 14 = .ok (.aload_n 0, 1) := by decide +kernel
theorem dX1_add_15 : decode cX1_add 15 = .ok (.getfield 27, 3) := by decide +kernel
theorem dX1_add_18 : decode cX1_add 18 = .ok (.iload_n 2, 1) := by decide +kernel
theorem dX1_add_19 : decode cX1_add 19 = .ok (.iastore, 1) := by decide +kernel
theorem dX1_add_20 : decode cX1_add 20 = .ok (.aload_n 0, 1) := by decide +kernel
theorem dX1_add_21 : decode cX1_add 21 = .ok (.getfield 16, 3) := by decide +kernel
theorem dX1_add_24 : decode cX1_add 24 = .ok (.aload_n 0, 1) := by decide +kernel
theorem dX1_add_25 : decode cX1_add 25 = .ok (.getfield 27, 3) := by decide +kernel
theorem dX1_add_28 : decode cX1_add 28 = .ok (.iload_n 3, 1) := by decide +kernel
theorem dX1_add_29 : decode cX1_add 29 = .ok (.iastore, 1) := by decide +kernel
theorem dX1_add_30 : decode cX1_add 30 = .ok (.aload_n 0, 1) := by decide +kernel
theorem dX1_add_31 : decode cX1_add 31 = .ok (.getfield 19, 3) := by decide +kernel
theorem dX1_add_34 : decode cX1_add 34 = .ok (.aload_n 0, 1) := by decide +kernel
theorem dX1_add_35 : decode cX1_add 35 = .ok (.getfield 27, 3) := by decide +kernel
theorem dX1_add_38 : decode cX1_add 38 = .ok (.aload_n 0, 1) := by decide +kernel
theorem dX1_add_39 : decode cX1_add 39 = .ok (.getfield 23, 3) := by decide +kernel
theorem dX1_add_42 : decode cX1_add 42 = .ok (.lastore, 1) := by decide +kernel
theorem dX1_add_43 : decode cX1_add 43 = .ok (.aload_n 0, 1) := by decide +kernel
theorem dX1_add_44 : decode cX1_add 44 = .ok (.dup, 1) := by decide +kernel
theorem dX1_add_45 : decode cX1_add 45 = .ok (.getfield 27, 3) := by decide +kernel
theorem dX1_add_48 : decode cX1_add 48 = .ok (.iconst 1, 1) := by decide +kernel
theorem dX1_add_49 : decode cX1_add 49 = .ok (.iadd, 1) := by decide +kernel
theorem dX1_add_50 : decode cX1_add 50 = .ok (.putfield 27, 3) := by decide +kernel
theorem dX1_add_53 : decode cX1_add 53 = .ok (.aload_n 0, 1) := by decide +kernel
theorem dX1_add_54 : decode cX1_add 54 = .ok (.iload_n 2, 1) := by decide +kernel
theorem dX1_add_55 : decode cX1_add 55 = .ok (.iload_n 3, 1) := by decide +kernel
theorem dX1_add_56 : decode cX1_add 56 = .ok (.invokevirtual 41, 3) := by decide +kernel
theorem dX1_add_59 : decode cX1_add 59 = .ok (.return_, 1) := by decide +kernel
theorem dX1_backTo_0 : decode cX1_backTo 0 = .ok (.iload_n 1, 1) := by decide +kernel
theorem dX1_backTo_1 : decode cX1_backTo 1 = .ok (.aload_n 0, 1) := by decide +kernel
theorem dX1_backTo_2 : decode cX1_backTo 2 = .ok (.getfield 27, 3) := by decide +kernel
theorem dX1_backTo_5 : decode cX1_backTo 5 = .ok (.if_icmp .ge 18, 3) := by decide +kernel
theorem dX1_backTo_8 : decode cX1_backTo 8 = .ok (.aload_n 0, 1) := by decide +kernel
theorem dX1_backTo_9 : decode cX1_backTo 9 = .ok (.aload_n 0, 1) := by decide +kernel
theorem dX1_backTo_10 : decode cX1_backTo 10 = .ok (.getfield 19, 3) := by decide +kernel
theorem dX1_backTo_13 : decode cX1_backTo 13 = .ok (.iload_n 1, 1) := by decide +kernel
theorem dX1_backTo_14 : decode cX1_backTo 14 = .ok (.laload, 1) := by decide +kernel
theorem dX1_backTo_15 : decode cX1_backTo 15 = .ok (.putfield 23, 3) := by decide +kernel
theorem dX1_backTo_18 : decode cX1_backTo 18 = .ok (.aload_n 0, 1) := by decide +kernel
theorem dX1_backTo_19 : decode cX1_backTo 19 = .ok (.iload_n 1, 1) := by decide +kernel
theorem dX1_backTo_20 : decode cX1_backTo 20 = .ok (.putfield 27, 3) := by decide +kernel
theorem dX1_backTo_23 : decode cX1_backTo 23 = .ok (.return_, 1) := by decide +kernel
theorem dX1_showed_0 : decode cX1_showed 0 = .ok (.aload_n 0, 1) := by decide +kernel
theorem dX1_showed_1 : decode cX1_showed 1 = .ok (.getfield 16, 3) := by decide +kernel
theorem dX1_showed_4 : decode cX1_showed 4 = .ok (.iload_n 1, 1) := by decide +kernel
theorem dX1_showed_5 : decode cX1_showed 5 = .ok (.iaload, 1) := by decide +kernel
theorem dX1_showed_6 : decode cX1_showed 6 = .ok (.iload_n 2, 1) := by decide +kernel
theorem dX1_showed_7 : decode cX1_showed 7 = .ok (.ishr, 1) := by decide +kernel
theorem dX1_showed_8 : decode cX1_showed 8 = .ok (.iconst 1, 1) := by decide +kernel
theorem dX1_showed_9 : decode cX1_showed 9 = .ok (.iand, 1) := by decide +kernel
theorem dX1_showed_10 : decode cX1_showed 10 = .ok (.ifCond .eq 7, 3) := by decide +kernel
theorem dX1_showed_13 : decode cX1_showed 13 = .ok (.iconst 1, 1) := by decide +kernel
theorem dX1_showed_14 : decode cX1_showed 14 = .ok (.goto 4, 3) := by decide +kernel
theorem dX1_showed_17 : decode cX1_showed 17 = .ok (.iconst 0, 1) := by decide +kernel
theorem dX1_showed_18 : decode cX1_showed 18 = .ok (.istore 5, 2) := by decide +kernel
theorem dX1_showed_20 : decode cX1_showed 20 = .ok (.aload_n 0, 1) := by decide +kernel
theorem dX1_showed_21 : decode cX1_showed 21 = .ok (.getfield 16, 3) := by decide +kernel
theorem dX1_showed_24 : decode cX1_showed 24 = .ok (.iload_n 1, 1) := by decide +kernel
theorem dX1_showed_25 : decode cX1_showed 25 = .ok (.iaload, 1) := by decide +kernel
theorem dX1_showed_26 : decode cX1_showed 26 = .ok (.iload_n 3, 1) := by decide +kernel
theorem dX1_showed_27 : decode cX1_showed 27 = .ok (.ishr, 1) := by decide +kernel
theorem dX1_showed_28 : decode cX1_showed 28 = .ok (.iconst 1, 1) := by decide +kernel
theorem dX1_showed_29 : decode cX1_showed 29 = .ok (.iand, 1) := by decide +kernel
theorem dX1_showed_30 : decode cX1_showed 30 = .ok (.ifCond .eq 7, 3) := by decide +kernel
theorem dX1_showed_33 : decode cX1_showed 33 = .ok (.iconst 1, 1) := by decide +kernel
theorem dX1_showed_34 : decode cX1_showed 34 = .ok (.goto 4, 3) := by decide +kernel
theorem dX1_showed_37 : decode cX1_showed 37 = .ok (.iconst 0, 1) := by decide +kernel
theorem dX1_showed_38 : decode cX1_showed 38 = .ok (.istore 6, 2) := by decide +kernel
theorem dX1_showed_40 : decode cX1_showed 40 = .ok (.iload 5, 2) := by decide +kernel
theorem dX1_showed_42 : decode cX1_showed 42 = .ok (.ifCond .eq 13, 3) := by decide +kernel
theorem dX1_showed_45 : decode cX1_showed 45 = .ok (.iload 6, 2) := by decide +kernel
theorem dX1_showed_47 : decode cX1_showed 47 = .ok (.ifCond .eq 8, 3) := by decide +kernel
theorem dX1_showed_50 : decode cX1_showed 50 = .ok (.iload 4, 2) := by decide +kernel
theorem dX1_showed_52 : decode cX1_showed 52 = .ok (.ifCond .ne 33, 3) := by decide +kernel
theorem dX1_showed_55 : decode cX1_showed 55 = .ok (.aload_n 0, 1) := by decide +kernel
theorem dX1_showed_56 : decode cX1_showed 56 = .ok (.getfield 9, 3) := by decide +kernel
theorem dX1_showed_59 : decode cX1_showed 59 = .ok (.iload_n 1, 1) := by decide +kernel
theorem dX1_showed_60 : decode cX1_showed 60 = .ok (.iaload, 1) := by decide +kernel
theorem dX1_showed_61 : decode cX1_showed 61 = .ok (.iload_n 2, 1) := by decide +kernel
theorem dX1_showed_62 : decode cX1_showed 62 = .ok (.if_icmp .ne 8, 3) := by decide +kernel
theorem dX1_showed_65 : decode cX1_showed 65 = .ok (.iload 6, 2) := by decide +kernel
theorem dX1_showed_67 : decode cX1_showed 67 = .ok (.ifCond .ne 18, 3) := by decide +kernel
theorem dX1_showed_70 : decode cX1_showed 70 = .ok (.aload_n 0, 1) := by decide +kernel
theorem dX1_showed_71 : decode cX1_showed 71 = .ok (.getfield 9, 3) := by decide +kernel
theorem dX1_showed_74 : decode cX1_showed 74 = .ok (.iload_n 1, 1) := by decide +kernel
theorem dX1_showed_75 : decode cX1_showed 75 = .ok (.iaload, 1) := by decide +kernel
theorem dX1_showed_76 : decode cX1_showed 76 = .ok (.iload_n 3, 1) := by decide +kernel
theorem dX1_showed_77 : decode cX1_showed 77 = .ok (.if_icmp .ne 12, 3) := by decide +kernel
theorem dX1_showed_80 : decode cX1_showed 80 = .ok (.iload 5, 2) := by decide +kernel
theorem dX1_showed_82 : decode cX1_showed 82 = .ok (.ifCond .eq 7, 3) := by decide +kernel
theorem dX1_showed_85 : decode cX1_showed 85 = .ok (.iconst 1, 1) := by decide +kernel
theorem dX1_showed_86 : decode cX1_showed 86 = .ok (.goto 4, 3) := by decide +kernel
theorem dX1_showed_89 : decode cX1_showed 89 = .ok (.iconst 0, 1) := by decide +kernel
theorem dX1_showed_90 : decode cX1_showed 90 = .ok (.ireturn, 1) := by decide +kernel
theorem dX2_isOf_0 : decode cX2_isOf 0 = .ok (.iload_n 0, 1) := by decide +kernel
theorem dX2_isOf_1 : decode cX2_isOf 1 = .ok (.iload_n 1, 1) := by decide +kernel
theorem dX2_isOf_2 : decode cX2_isOf 2 = .ok (.if_icmp .eq 12, 3) := by decide +kernel
theorem dX2_isOf_5 : decode cX2_isOf 5 = .ok (.getstatic 9, 3) := by decide +kernel
theorem dX2_isOf_8 : decode cX2_isOf 8 = .ok (.iload_n 0, 1) := by decide +kernel
theorem dX2_isOf_9 : decode cX2_isOf 9 = .ok (.iaload, 1) := by decide +kernel
theorem dX2_isOf_10 : decode cX2_isOf 10 = .ok (.iload_n 1, 1) := by decide +kernel
theorem dX2_isOf_11 : decode cX2_isOf 11 = .ok (.if_icmp .ne 7, 3) := by decide +kernel
theorem dX2_isOf_14 : decode cX2_isOf 14 = .ok (.iconst 1, 1) := by decide +kernel
theorem dX2_isOf_15 : decode cX2_isOf 15 = .ok (.goto 4, 3) := by decide +kernel
theorem dX2_isOf_18 : decode cX2_isOf 18 = .ok (.iconst 0, 1) := by decide +kernel
theorem dX2_isOf_19 : decode cX2_isOf 19 = .ok (.ireturn, 1) := by decide +kernel
theorem dX2_isEnough_0 : decode cX2_isEnough 0 = .ok (.iload_n 1, 1) := by decide +kernel
theorem dX2_isEnough_1 : decode cX2_isEnough 1 = .ok (.iload_n 2, 1) := by decide +kernel
theorem dX2_isEnough_2 : decode cX2_isEnough 2 = .ok (.if_icmp .gt 13, 3) := by decide +kernel
theorem dX2_isEnough_5 : decode cX2_isEnough 5 = .ok (.iload_n 0, 1) := by decide +kernel
theorem dX2_isEnough_6 : decode cX2_isEnough 6 = .ok (.iconst 5, 1) := by decide +kernel
theorem dX2_isEnough_7 : decode cX2_isEnough 7 = .ok (.if_icmp .ne 12, 3) := by decide +kernel
theorem dX2_isEnough_10 : decode cX2_isEnough 10 = .ok (.iload_n 1, 1) := by decide +kernel
theorem dX2_isEnough_11 : decode cX2_isEnough 11 = .ok (.iload_n 2, 1) := by decide +kernel
theorem dX2_isEnough_12 : decode cX2_isEnough 12 = .ok (.if_icmp .ne 7, 3) := by decide +kernel
theorem dX2_isEnough_15 : decode cX2_isEnough 15 = .ok (.iconst 1, 1) := by decide +kernel
theorem dX2_isEnough_16 : decode cX2_isEnough 16 = .ok (.goto 4, 3) := by decide +kernel
theorem dX2_isEnough_19 : decode cX2_isEnough 19 = .ok (.iconst 0, 1) := by decide +kernel
theorem dX2_isEnough_20 : decode cX2_isEnough 20 = .ok (.istore_n 3, 1) := by decide +kernel
theorem dX2_isEnough_21 : decode cX2_isEnough 21 = .ok (.iload_n 3, 1) := by decide +kernel
theorem dX2_isEnough_22 : decode cX2_isEnough 22 = .ok (.ifCond .eq 16, 3) := by decide +kernel
theorem dX2_isEnough_25 : decode cX2_isEnough 25 = .ok (.iload_n 1, 1) := by decide +kernel
theorem dX2_isEnough_26 : decode cX2_isEnough 26 = .ok (.getstatic 15, 3) := by decide +kernel
theorem dX2_isEnough_29 : decode cX2_isEnough 29 = .ok (.iload_n 0, 1) := by decide +kernel
theorem dX2_isEnough_30 : decode cX2_isEnough 30 = .ok (.iaload, 1) := by decide +kernel
theorem dX2_isEnough_31 : decode cX2_isEnough 31 = .ok (.if_icmp .lt 7, 3) := by decide +kernel
theorem dX2_isEnough_34 : decode cX2_isEnough 34 = .ok (.iconst 1, 1) := by decide +kernel
theorem dX2_isEnough_35 : decode cX2_isEnough 35 = .ok (.goto 4, 3) := by decide +kernel
theorem dX2_isEnough_38 : decode cX2_isEnough 38 = .ok (.iconst 0, 1) := by decide +kernel
theorem dX2_isEnough_39 : decode cX2_isEnough 39 = .ok (.ireturn, 1) := by decide +kernel
theorem dX2_byLetter_0 : decode cX2_byLetter 0 = .ok (.iconst 0, 1) := by decide +kernel
theorem dX2_byLetter_1 : decode cX2_byLetter 1 = .ok (.istore_n 1, 1) := by decide +kernel
theorem dX2_byLetter_2 : decode cX2_byLetter 2 = .ok (.iload_n 1, 1) := by decide +kernel
theorem dX2_byLetter_3 : decode cX2_byLetter 3 = .ok (.bipush 6, 2) := by decide +kernel
theorem dX2_byLetter_5 : decode cX2_byLetter 5 = .ok (.if_icmp .ge 20, 3) := by decide +kernel
theorem dX2_byLetter_8 : decode cX2_byLetter 8 = .ok (.getstatic 18, 3) := by decide +kernel
theorem dX2_byLetter_11 : decode cX2_byLetter 11 = .ok (.iload_n 1, 1) := by decide +kernel
theorem dX2_byLetter_12 : decode cX2_byLetter 12 = .ok (.iaload, 1) := by decide +kernel
theorem dX2_byLetter_13 : decode cX2_byLetter 13 = .ok (.iload_n 0, 1) := by decide +kernel
theorem dX2_byLetter_14 : decode cX2_byLetter 14 = .ok (.if_icmp .ne 5, 3) := by decide +kernel
theorem dX2_byLetter_17 : decode cX2_byLetter 17 = .ok (.iload_n 1, 1) := by decide +kernel
theorem dX2_byLetter_18 : decode cX2_byLetter 18 = .ok (.ireturn, 1) := by decide +kernel
theorem dX2_byLetter_19 : decode cX2_byLetter 19 = .ok (.iinc 1 1, 3) := by decide +kernel
theorem dX2_byLetter_22 : decode cX2_byLetter 22 = .ok (.goto (-20), 3) := by decide +kernel
theorem dX2_byLetter_25 : decode cX2_byLetter 25 = .ok (.bipush (-9), 2) := by decide +kernel
theorem dX2_byLetter_27 : decode cX2_byLetter 27 = .ok (.ireturn, 1) := by decide +kernel
theorem dX3_init_0 : decode cX3_init 0 = .ok (.aload_n 0, 1) := by decide +kernel
theorem dX3_init_1 : decode cX3_init 1 = .ok (.invokespecial 5, 3) := by decide +kernel
theorem dX3_init_4 : decode cX3_init 4 = .ok (.aload_n 0, 1) := by decide +kernel
theorem dX3_init_5 : decode cX3_init 5 = .ok (.sipush 256, 3) := by decide +kernel
theorem dX3_init_8 : decode cX3_init 8 = .ok (.newarray .boolean, 2) := by decide +kernel
theorem dX3_init_10 : decode cX3_init 10 = .ok (.putfield 13, 3) := by decide +kernel
theorem dX3_init_13 : decode cX3_init 13 = .ok (.aload_n 0, 1) := by decide +kernel
theorem dX3_init_14 : decode cX3_init 14 = .ok (.sipush 256, 3) := by decide +kernel
theorem dX3_init_17 : decode cX3_init 17 = .ok (.newarray .int, 2) := by decide +kernel
theorem dX3_init_19 : decode cX3_init 19 = .ok (.putfield 17, 3) := by decide +kernel
theorem dX3_init_22 : decode cX3_init 22 = .ok (.return_, 1) := by decide +kernel
set_option maxRecDepth 20000 in
theorem ggX3_draw_X6_everyTalk : GoodIn wsX3_draw wsX6_everyTalk := goodIn_r _ [7, 8, 68, 69, 70, 71, 72, 73, 74, 75, 76, 77, 78] (by decide +kernel) (by decide +kernel)
set_option maxRecDepth 20000 in
theorem gX3_draw_X6_everyTalk : GoodIn wsX3_draw (wsV RX3 21 RX6 yX6_everyTalk wsX6_everyTalk) := goodIn_app (goodIn_of _ (by decide +kernel)) ggX3_draw_X6_everyTalk
set_option maxRecDepth 20000 in
theorem ggX3_draw_X6_goTogether : GoodIn wsX3_draw wsX6_goTogether := goodIn_r _ [12, 8, 13, 14, 15, 16, 6, 17, 18, 19, 20, 21, 22, 23, 24, 25, 26, 27, 28, 29, 30, 31, 32, 33, 34, 35, 36, 37, 38, 39, 40, 41, 42, 43, 44, 45, 46, 47, 48, 49, 50, 51, 52, 53, 54, 55, 56, 57, 68, 69, 70, 71, 72, 73, 74, 75, 76, 77, 78] (by decide +kernel) (by decide +kernel)
set_option maxRecDepth 20000 in
theorem gX3_draw_X6_goTogether : GoodIn wsX3_draw (wsV RX3 25 RX6 yX6_goTogether wsX6_goTogether) := goodIn_app (goodIn_of _ (by decide +kernel)) ggX3_draw_X6_goTogether
set_option maxRecDepth 20000 in
theorem ggX3_draw_X3_fewestOf : GoodIn wsX3_draw wsX3_fewestOf := goodIn_r _ [62, 1, 2, 63, 64, 38, 65, 66, 67] (by decide +kernel) (by decide +kernel)
set_option maxRecDepth 20000 in
theorem gX3_draw_X3_fewestOf : GoodIn wsX3_draw (wsV RX3 29 RX3 yX3_fewestOf wsX3_fewestOf) := goodIn_app (goodIn_of _ (by decide +kernel)) ggX3_draw_X3_fewestOf
theorem dX3_draw_0 : decode cX3_draw 0 = .ok (.iconst 0, 1) := by decide +kernel
theorem dX3_draw_1 : decode cX3_draw 1 = .ok (.istore_n 2, 1) := by decide +kernel
theorem dX3_draw_2 : decode cX3_draw 2 = .ok (.iload_n 2, 1) := by decide +kernel
theorem dX3_draw_3 : decode cX3_draw 3 = .ok (.aload_n 1, 1) := by decide +kernel
theorem dX3_draw_4 : decode cX3_draw 4 = .ok (.invokevirtual 21, 3) := by decide +kernel
theorem dX3_draw_7 : decode cX3_draw 7 = .ok (.if_icmp .gt 39, 3) := by decide +kernel
theorem dX3_draw_10 : decode cX3_draw 10 = .ok (.aload_n 0, 1) := by decide +kernel
theorem dX3_draw_11 : decode cX3_draw 11 = .ok (.getfield 13, 3) := by decide +kernel
theorem dX3_draw_14 : decode cX3_draw 14 = .ok (.iload_n 2, 1) := by decide +kernel
theorem dX3_draw_15 : decode cX3_draw 15 = .ok (.aload_n 1, 1) := by decide +kernel
theorem dX3_draw_16 : decode cX3_draw 16 = .ok (.iload_n 2, 1) := by decide +kernel
theorem dX3_draw_17 : decode cX3_draw 17 = .ok (.invokevirtual 25, 3) := by decide +kernel
theorem dX3_draw_20 : decode cX3_draw 20 = .ok (.bastore, 1) := by decide +kernel
theorem dX3_draw_21 : decode cX3_draw 21 = .ok (.aload_n 0, 1) := by decide +kernel
theorem dX3_draw_22 : decode cX3_draw 22 = .ok (.getfield 17, 3) := by decide +kernel
theorem dX3_draw_25 : decode cX3_draw 25 = .ok (.iload_n 2, 1) := by decide +kernel
theorem dX3_draw_26 : decode cX3_draw 26 = .ok (.iload_n 2, 1) := by decide +kernel
theorem dX3_draw_27 : decode cX3_draw 27 = .ok (.ifCond .ne 7, 3) := by decide +kernel
theorem dX3_draw_30 : decode cX3_draw 30 = .ok (.iconst 0, 1) := by decide +kernel
theorem dX3_draw_31 : decode cX3_draw 31 = .ok (.goto 8, 3) := by decide +kernel
theorem dX3_draw_34 : decode cX3_draw 34 = .ok (.aload_n 0, 1) := by decide +kernel
theorem dX3_draw_35 : decode cX3_draw 35 = .ok (.iload_n 2, 1) := by decide +kernel
theorem dX3_draw_36 : decode cX3_draw 36 = .ok (.invokevirtual 29, 3) := by decide +kernel
theorem dX3_draw_39 : decode cX3_draw 39 = .ok (.iastore, 1) := by decide +kernel
theorem dX3_draw_40 : decode cX3_draw 40 = .ok (.iinc 2 1, 3) := by decide +kernel
theorem dX3_draw_43 : decode cX3_draw 43 = .ok (.goto (-41), 3) := by decide +kernel
theorem dX3_draw_46 : decode cX3_draw 46 = .ok (.return_, 1) := by decide +kernel
theorem dX3_fewestOf_0 : decode cX3_fewestOf 0 = .ok (.iload_n 1, 1) := by decide +kernel
theorem dX3_fewestOf_1 : decode cX3_fewestOf 1 = .ok (.iload_n 1, 1) := by decide +kernel
theorem dX3_fewestOf_2 : decode cX3_fewestOf 2 = .ok (.ineg, 1) := by decide +kernel
theorem dX3_fewestOf_3 : decode cX3_fewestOf 3 = .ok (.iand, 1) := by decide +kernel
theorem dX3_fewestOf_4 : decode cX3_fewestOf 4 = .ok (.istore_n 2, 1) := by decide +kernel
theorem dX3_fewestOf_5 : decode cX3_fewestOf 5 = .ok (.bipush 100, 2) := by decide +kernel
theorem dX3_fewestOf_7 : decode cX3_fewestOf 7 = .ok (.istore_n 3, 1) := by decide +kernel
theorem dX3_fewestOf_8 : decode cX3_fewestOf 8 = .ok (.iload_n 1, 1) := by decide +kernel
theorem dX3_fewestOf_9 : decode cX3_fewestOf 9 = .ok (.istore 4, 2) := by decide +kernel
theorem dX3_fewestOf_11 : decode cX3_fewestOf 11 = .ok (.iload 4, 2) := by decide +kernel
theorem dX3_fewestOf_13 : decode cX3_fewestOf 13 = .ok (.ifCond .le 49, 3) := by decide +kernel
theorem dX3_fewestOf_16 : decode cX3_fewestOf 16 = .ok (.iload 4, 2) := by decide +kernel
theorem dX3_fewestOf_18 : decode cX3_fewestOf 18 = .ok (.iload_n 2, 1) := by decide +kernel
theorem dX3_fewestOf_19 : decode cX3_fewestOf 19 = .ok (.iand, 1) := by decide +kernel
theorem dX3_fewestOf_20 : decode cX3_fewestOf 20 = .ok (.ifCond .eq 31, 3) := by decide +kernel
theorem dX3_fewestOf_23 : decode cX3_fewestOf 23 = .ok (.aload_n 0, 1) := by decide +kernel
theorem dX3_fewestOf_24 : decode cX3_fewestOf 24 = .ok (.getfield 13, 3) := by decide +kernel
theorem dX3_fewestOf_27 : decode cX3_fewestOf 27 = .ok (.iload 4, 2) := by decide +kernel
theorem dX3_fewestOf_29 : decode cX3_fewestOf 29 = .ok (.baload, 1) := by decide +kernel
theorem dX3_fewestOf_30 : decode cX3_fewestOf 30 = .ok (.ifCond .eq 21, 3) := by decide +kernel
theorem dX3_fewestOf_33 : decode cX3_fewestOf 33 = .ok (.iload_n 3, 1) := by decide +kernel
theorem dX3_fewestOf_34 : decode cX3_fewestOf 34 = .ok (.iconst 1, 1) := by decide +kernel
theorem dX3_fewestOf_35 : decode cX3_fewestOf 35 = .ok (.aload_n 0, 1) := by decide +kernel
theorem dX3_fewestOf_36 : decode cX3_fewestOf 36 = .ok (.getfield 17, 3) := by decide +kernel
theorem dX3_fewestOf_39 : decode cX3_fewestOf 39 = .ok (.iload_n 1, 1) := by decide +kernel
theorem dX3_fewestOf_40 : decode cX3_fewestOf 40 = .ok (.iload 4, 2) := by decide +kernel
theorem dX3_fewestOf_42 : decode cX3_fewestOf 42 = .ok (.iconst (-1), 1) := by decide +kernel
theorem dX3_fewestOf_43 : decode cX3_fewestOf 43 = .ok (.ixor, 1) := by decide +kernel
theorem dX3_fewestOf_44 : decode cX3_fewestOf 44 = .ok (.iand, 1) := by decide +kernel
theorem dX3_fewestOf_45 : decode cX3_fewestOf 45 = .ok (.iaload, 1) := by decide +kernel
theorem dX3_fewestOf_46 : decode cX3_fewestOf 46 = .ok (.iadd, 1) := by decide +kernel
theorem dX3_fewestOf_47 : decode cX3_fewestOf 47 = .ok (.invokestatic 33, 3) := by decide +kernel
theorem dX3_fewestOf_50 : decode cX3_fewestOf 50 = .ok (.istore_n 3, 1) := by decide +kernel
theorem dX3_fewestOf_51 : decode cX3_fewestOf 51 = .ok (.iload 4, 2) := by decide +kernel
theorem dX3_fewestOf_53 : decode cX3_fewestOf 53 = .ok (.iconst 1, 1) := by decide +kernel
theorem dX3_fewestOf_54 : decode cX3_fewestOf 54 = .ok (.isub, 1) := by decide +kernel
theorem dX3_fewestOf_55 : decode cX3_fewestOf 55 = .ok (.iload_n 1, 1) := by decide +kernel
theorem dX3_fewestOf_56 : decode cX3_fewestOf 56 = .ok (.iand, 1) := by decide +kernel
theorem dX3_fewestOf_57 : decode cX3_fewestOf 57 = .ok (.istore 4, 2) := by decide +kernel
theorem dX3_fewestOf_59 : decode cX3_fewestOf 59 = .ok (.goto (-48), 3) := by decide +kernel
theorem dX3_fewestOf_62 : decode cX3_fewestOf 62 = .ok (.iload_n 3, 1) := by decide +kernel
theorem dX3_fewestOf_63 : decode cX3_fewestOf 63 = .ok (.ireturn, 1) := by decide +kernel
set_option maxRecDepth 20000 in
theorem ggX3_hours_X6_everyTalk : GoodIn wsX3_hours wsX6_everyTalk := goodIn_r _ [6, 7, 10, 11, 12, 13, 14, 15, 16, 17, 18, 19, 20] (by decide +kernel) (by decide +kernel)
set_option maxRecDepth 20000 in
theorem gX3_hours_X6_everyTalk : GoodIn wsX3_hours (wsV RX3 21 RX6 yX6_everyTalk wsX6_everyTalk) := goodIn_app (goodIn_of _ (by decide +kernel)) ggX3_hours_X6_everyTalk
theorem dX3_hours_0 : decode cX3_hours 0 = .ok (.aload_n 0, 1) := by decide +kernel
theorem dX3_hours_1 : decode cX3_hours 1 = .ok (.getfield 17, 3) := by decide +kernel
theorem dX3_hours_4 : decode cX3_hours 4 = .ok (.aload_n 1, 1) := by decide +kernel
theorem dX3_hours_5 : decode cX3_hours 5 = .ok (.invokevirtual 21, 3) := by decide +kernel
theorem dX3_hours_8 : decode cX3_hours 8 = .ok (.iaload, 1) := by decide +kernel
theorem dX3_hours_9 : decode cX3_hours 9 = .ok (.istore_n 2, 1) := by decide +kernel
theorem dX3_hours_10 : decode cX3_hours 10 = .ok (.iload_n 2, 1) := by decide +kernel
theorem dX3_hours_11 : decode cX3_hours 11 = .ok (.bipush 100, 2) := by decide +kernel
theorem dX3_hours_13 : decode cX3_hours 13 = .ok (.if_icmp .ge 7, 3) := by decide +kernel
theorem dX3_hours_16 : decode cX3_hours 16 = .ok (.iload_n 2, 1) := by decide +kernel
theorem dX3_hours_17 : decode cX3_hours 17 = .ok (.goto 5, 3) := by decide +kernel
theorem dX3_hours_20 : decode cX3_hours 20 = .ok (.bipush (-9), 2) := by decide +kernel
theorem dX3_hours_22 : decode cX3_hours 22 = .ok (.ireturn, 1) := by decide +kernel
set_option maxRecDepth 20000 in
theorem ggX3_firstHour_X6_everyTalk : GoodIn wsX3_firstHour wsX6_everyTalk := goodIn_r _ [7, 8, 11, 12, 13, 14, 15, 16, 17, 18, 19, 20, 21] (by decide +kernel) (by decide +kernel)
set_option maxRecDepth 20000 in
theorem gX3_firstHour_X6_everyTalk : GoodIn wsX3_firstHour (wsV RX3 21 RX6 yX6_everyTalk wsX6_everyTalk) := goodIn_app (goodIn_of _ (by decide +kernel)) ggX3_firstHour_X6_everyTalk
theorem dX3_firstHour_0 : decode cX3_firstHour 0 = .ok (.aload_n 1, 1) := by decide +kernel
theorem dX3_firstHour_1 : decode cX3_firstHour 1 = .ok (.invokevirtual 21, 3) := by decide +kernel
theorem dX3_firstHour_4 : decode cX3_firstHour 4 = .ok (.istore_n 2, 1) := by decide +kernel
theorem dX3_firstHour_5 : decode cX3_firstHour 5 = .ok (.iconst 1, 1) := by decide +kernel
theorem dX3_firstHour_6 : decode cX3_firstHour 6 = .ok (.istore_n 3, 1) := by decide +kernel
theorem dX3_firstHour_7 : decode cX3_firstHour 7 = .ok (.iload_n 3, 1) := by decide +kernel
theorem dX3_firstHour_8 : decode cX3_firstHour 8 = .ok (.iload_n 2, 1) := by decide +kernel
theorem dX3_firstHour_9 : decode cX3_firstHour 9 = .ok (.if_icmp .gt 41, 3) := by decide +kernel
theorem dX3_firstHour_12 : decode cX3_firstHour 12 = .ok (.aload_n 0, 1) := by decide +kernel
theorem dX3_firstHour_13 : decode cX3_firstHour 13 = .ok (.getfield 13, 3) := by decide +kernel
theorem dX3_firstHour_16 : decode cX3_firstHour 16 = .ok (.iload_n 3, 1) := by decide +kernel
theorem dX3_firstHour_17 : decode cX3_firstHour 17 = .ok (.baload, 1) := by decide +kernel
theorem dX3_firstHour_18 : decode cX3_firstHour 18 = .ok (.ifCond .eq 26, 3) := by decide +kernel
theorem dX3_firstHour_21 : decode cX3_firstHour 21 = .ok (.iconst 1, 1) := by decide +kernel
theorem dX3_firstHour_22 : decode cX3_firstHour 22 = .ok (.aload_n 0, 1) := by decide +kernel
theorem dX3_firstHour_23 : decode cX3_firstHour 23 = .ok (.getfield 17, 3) := by decide +kernel
theorem dX3_firstHour_26 : decode cX3_firstHour 26 = .ok (.iload_n 2, 1) := by decide +kernel
theorem dX3_firstHour_27 : decode cX3_firstHour 27 = .ok (.iload_n 3, 1) := by decide +kernel
theorem dX3_firstHour_28 : decode cX3_firstHour 28 = .ok (.iconst (-1), 1) := by decide +kernel
theorem dX3_firstHour_29 : decode cX3_firstHour 29 = .ok (.ixor, 1) := by decide +kernel
theorem dX3_firstHour_30 : decode cX3_firstHour 30 = .ok (.iand, 1) := by decide +kernel
theorem dX3_firstHour_31 : decode cX3_firstHour 31 = .ok (.iaload, 1) := by decide +kernel
theorem dX3_firstHour_32 : decode cX3_firstHour 32 = .ok (.iadd, 1) := by decide +kernel
theorem dX3_firstHour_33 : decode cX3_firstHour 33 = .ok (.aload_n 0, 1) := by decide +kernel
theorem dX3_firstHour_34 : decode cX3_firstHour 34 = .ok (.getfield 17, 3) := by decide +kernel
theorem dX3_firstHour_37 : decode cX3_firstHour 37 = .ok (.iload_n 2, 1) := by decide +kernel
theorem dX3_firstHour_38 : decode cX3_firstHour 38 = .ok (.iaload, 1) := by decide +kernel
theorem dX3_firstHour_39 : decode cX3_firstHour 39 = .ok (.if_icmp .ne 5, 3) := by decide +kernel
theorem dX3_firstHour_42 : decode cX3_firstHour 42 = .ok (.iload_n 3, 1) := by decide +kernel
theorem dX3_firstHour_43 : decode cX3_firstHour 43 = .ok (.ireturn, 1) := by decide +kernel
theorem dX3_firstHour_44 : decode cX3_firstHour 44 = .ok (.iinc 3 2, 3) := by decide +kernel
theorem dX3_firstHour_47 : decode cX3_firstHour 47 = .ok (.goto (-40), 3) := by decide +kernel
theorem dX3_firstHour_50 : decode cX3_firstHour 50 = .ok (.iconst 0, 1) := by decide +kernel
theorem dX3_firstHour_51 : decode cX3_firstHour 51 = .ok (.ireturn, 1) := by decide +kernel
set_option maxRecDepth 20000 in
theorem ggX3_largest_X6_everyTalk : GoodIn wsX3_largest wsX6_everyTalk := goodIn_r _ [6, 7, 17, 18, 19, 20, 21, 22, 23, 24, 25, 26, 27] (by decide +kernel) (by decide +kernel)
set_option maxRecDepth 20000 in
theorem gX3_largest_X6_everyTalk : GoodIn wsX3_largest (wsV RX3 21 RX6 yX6_everyTalk wsX6_everyTalk) := goodIn_app (goodIn_of _ (by decide +kernel)) ggX3_largest_X6_everyTalk
set_option maxRecDepth 20000 in
theorem ggX3_largest_J6_bitCount_0f7a4 : GoodIn wsX3_largest wsJ6_bitCount_0f7a4 := goodIn_r _ [11, 12, 13, 14] (by decide +kernel) (by decide +kernel)
set_option maxRecDepth 20000 in
theorem gX3_largest_J6_bitCount_0f7a4 : GoodIn wsX3_largest (va_wsS RX3 39 yJ6_bitCount_0f7a4 wsJ6_bitCount_0f7a4) := goodIn_app (goodIn_of _ (by decide +kernel)) ggX3_largest_J6_bitCount_0f7a4
theorem dX3_largest_0 : decode cX3_largest 0 = .ok (.iconst 0, 1) := by decide +kernel
theorem dX3_largest_1 : decode cX3_largest 1 = .ok (.istore_n 2, 1) := by decide +kernel
theorem dX3_largest_2 : decode cX3_largest 2 = .ok (.iconst 0, 1) := by decide +kernel
theorem dX3_largest_3 : decode cX3_largest 3 = .ok (.istore_n 3, 1) := by decide +kernel
theorem dX3_largest_4 : decode cX3_largest 4 = .ok (.iload_n 3, 1) := by decide +kernel
theorem dX3_largest_5 : decode cX3_largest 5 = .ok (.aload_n 1, 1) := by decide +kernel
theorem dX3_largest_6 : decode cX3_largest 6 = .ok (.invokevirtual 21, 3) := by decide +kernel
theorem dX3_largest_9 : decode cX3_largest 9 = .ok (.if_icmp .gt 31, 3) := by decide +kernel
theorem dX3_largest_12 : decode cX3_largest 12 = .ok (.aload_n 0, 1) := by decide +kernel
theorem dX3_largest_13 : decode cX3_largest 13 = .ok (.getfield 13, 3) := by decide +kernel
theorem dX3_largest_16 : decode cX3_largest 16 = .ok (.iload_n 3, 1) := by decide +kernel
theorem dX3_largest_17 : decode cX3_largest 17 = .ok (.baload, 1) := by decide +kernel
theorem dX3_largest_18 : decode cX3_largest 18 = .ok (.ifCond .eq 16, 3) := by decide +kernel
theorem dX3_largest_21 : decode cX3_largest 21 = .ok (.iload_n 3, 1) := by decide +kernel
theorem dX3_largest_22 : decode cX3_largest 22 = .ok (.invokestatic 39, 3) := by decide +kernel
theorem dX3_largest_25 : decode cX3_largest 25 = .ok (.iload_n 2, 1) := by decide +kernel
theorem dX3_largest_26 : decode cX3_largest 26 = .ok (.invokestatic 39, 3) := by decide +kernel
theorem dX3_largest_29 : decode cX3_largest 29 = .ok (.if_icmp .le 5, 3) := by decide +kernel
theorem dX3_largest_32 : decode cX3_largest 32 = .ok (.iload_n 3, 1) := by decide +kernel
theorem dX3_largest_33 : decode cX3_largest 33 = .ok (.istore_n 2, 1) := by decide +kernel
theorem dX3_largest_34 : decode cX3_largest 34 = .ok (.iinc 3 1, 3) := by decide +kernel
theorem dX3_largest_37 : decode cX3_largest 37 = .ok (.goto (-33), 3) := by decide +kernel
theorem dX3_largest_40 : decode cX3_largest 40 = .ok (.iload_n 2, 1) := by decide +kernel
theorem dX3_largest_41 : decode cX3_largest 41 = .ok (.ireturn, 1) := by decide +kernel
theorem dX4_init_0 : decode cX4_init 0 = .ok (.aload_n 0, 1) := by decide +kernel
theorem dX4_init_1 : decode cX4_init 1 = .ok (.invokespecial 1, 3) := by decide +kernel
theorem dX4_init_4 : decode cX4_init 4 = .ok (.aload_n 0, 1) := by decide +kernel
theorem dX4_init_5 : decode cX4_init 5 = .ok (.bipush 40, 2) := by decide +kernel
theorem dX4_init_7 : decode cX4_init 7 = .ok (.newarray .int, 2) := by decide +kernel
theorem dX4_init_9 : decode cX4_init 9 = .ok (.putfield 9, 3) := by decide +kernel
theorem dX4_init_12 : decode cX4_init 12 = .ok (.aload_n 0, 1) := by decide +kernel
theorem dX4_init_13 : decode cX4_init 13 = .ok (.iconst (-1), 1) := by decide +kernel
theorem dX4_init_14 : decode cX4_init 14 = .ok (.putfield 13, 3) := by decide +kernel
theorem dX4_init_17 : decode cX4_init 17 = .ok (.return_, 1) := by decide +kernel
theorem dX4_isMissing_0 : decode cX4_isMissing 0 = .ok (.aload_n 0, 1) := by decide +kernel
theorem dX4_isMissing_1 : decode cX4_isMissing 1 = .ok (.getfield 13, 3) := by decide +kernel
theorem dX4_isMissing_4 : decode cX4_isMissing 4 = .ok (.ifCond .ge 7, 3) := by decide +kernel
theorem dX4_isMissing_7 : decode cX4_isMissing 7 = .ok (.iconst 1, 1) := by decide +kernel
theorem dX4_isMissing_8 : decode cX4_isMissing 8 = .ok (.goto 4, 3) := by decide +kernel
theorem dX4_isMissing_11 : decode cX4_isMissing 11 = .ok (.iconst 0, 1) := by decide +kernel
theorem dX4_isMissing_12 : decode cX4_isMissing 12 = .ok (.ireturn, 1) := by decide +kernel
theorem dX4_has_0 : decode cX4_has 0 = .ok (.iload_n 1, 1) := by decide +kernel
theorem dX4_has_1 : decode cX4_has 1 = .ok (.ifCond .lt 15, 3) := by decide +kernel
theorem dX4_has_4 : decode cX4_has 4 = .ok (.iload_n 1, 1) := by decide +kernel
theorem dX4_has_5 : decode cX4_has 5 = .ok (.aload_n 0, 1) := by decide +kernel
theorem dX4_has_6 : decode cX4_has 6 = .ok (.getfield 13, 3) := by decide +kernel
theorem dX4_has_9 : decode cX4_has 9 = .ok (.if_icmp .ge 7, 3) := by decide +kernel
theorem dX4_has_12 : decode cX4_has 12 = .ok (.iconst 1, 1) := by decide +kernel
theorem dX4_has_13 : decode cX4_has 13 = .ok (.goto 4, 3) := by decide +kernel
theorem dX4_has_16 : decode cX4_has 16 = .ok (.iconst 0, 1) := by decide +kernel
theorem dX4_has_17 : decode cX4_has 17 = .ok (.ireturn, 1) := by decide +kernel
theorem dX4_begin_0 : decode cX4_begin 0 = .ok (.aload_n 0, 1) := by decide +kernel
theorem dX4_begin_1 : decode cX4_begin 1 = .ok (.iload_n 1, 1) := by decide +kernel
theorem dX4_begin_2 : decode cX4_begin 2 = .ok (.putfield 13, 3) := by decide +kernel
theorem dX4_begin_5 : decode cX4_begin 5 = .ok (.iconst 0, 1) := by decide +kernel
theorem dX4_begin_6 : decode cX4_begin 6 = .ok (.istore_n 2, 1) := by decide +kernel
theorem dX4_begin_7 : decode cX4_begin 7 = .ok (.iload_n 2, 1) := by decide +kernel
theorem dX4_begin_8 : decode cX4_begin 8 = .ok (.bipush 40, 2) := by decide +kernel
theorem dX4_begin_10 : decode cX4_begin 10 = .ok (.if_icmp .ge 16, 3) := by decide +kernel
theorem dX4_begin_13 : decode cX4_begin 13 = .ok (.aload_n 0, 1) := by decide +kernel
theorem dX4_begin_14 : decode cX4_begin 14 = .ok (.getfield 9, 3) := by decide +kernel
theorem dX4_begin_17 : decode cX4_begin 17 = .ok (.iload_n 2, 1) := by decide +kernel
theorem dX4_begin_18 : decode cX4_begin 18 = .ok (.iconst 0, 1) := by decide +kernel
theorem dX4_begin_19 : decode cX4_begin 19 = .ok (.iastore, 1) := by decide +kernel
theorem dX4_begin_20 : decode cX4_begin 20 = .ok (.iinc 2 1, 3) := by decide +kernel
theorem dX4_begin_23 : decode cX4_begin 23 = .ok (.goto (-16), 3) := by decide +kernel
theorem dX4_begin_26 : decode cX4_begin 26 = .ok (.return_, 1) := by decide +kernel
set_option maxRecDepth 20000 in
theorem ggX4_fill_X4_begin : GoodIn wsX4_fill wsX4_begin := goodIn_r _ [10, 11, 1, 12, 13] (by decide +kernel) (by decide +kernel)
set_option maxRecDepth 20000 in
theorem gX4_fill_X4_begin : GoodIn wsX4_fill (wsV RX4 17 RX4 yX4_begin wsX4_begin) := goodIn_app (goodIn_of _ (by decide +kernel)) ggX4_fill_X4_begin
theorem dX4_fill_0 : decode cX4_fill 0 = .ok (.aload_n 0, 1) := by decide +kernel
theorem dX4_fill_1 : decode cX4_fill 1 = .ok (.iload_n 2, 1) := by decide +kernel
theorem dX4_fill_2 : decode cX4_fill 2 = .ok (.invokevirtual 17, 3) := by decide +kernel
theorem dX4_fill_5 : decode cX4_fill 5 = .ok (.aload_n 1, 1) := by decide +kernel
theorem dX4_fill_6 : decode cX4_fill 6 = .ok (.iconst 0, 1) := by decide +kernel
theorem dX4_fill_7 : decode cX4_fill 7 = .ok (.aload_n 0, 1) := by decide +kernel
theorem dX4_fill_8 : decode cX4_fill 8 = .ok (.getfield 9, 3) := by decide +kernel
theorem dX4_fill_11 : decode cX4_fill 11 = .ok (.iconst 0, 1) := by decide +kernel
theorem dX4_fill_12 : decode cX4_fill 12 = .ok (.iload_n 2, 1) := by decide +kernel
theorem dX4_fill_13 : decode cX4_fill 13 = .ok (.invokestatic 21, 3) := by decide +kernel
theorem dX4_fill_16 : decode cX4_fill 16 = .ok (.return_, 1) := by decide +kernel
theorem dX5_init_0 : decode cX5_init 0 = .ok (.aload_n 0, 1) := by decide +kernel
theorem dX5_init_1 : decode cX5_init 1 = .ok (.invokespecial 1, 3) := by decide +kernel
theorem dX5_init_4 : decode cX5_init 4 = .ok (.aload_n 0, 1) := by decide +kernel
theorem dX5_init_5 : decode cX5_init 5 = .ok (.bipush 6, 2) := by decide +kernel
theorem dX5_init_7 : decode cX5_init 7 = .ok (.newarray .int, 2) := by decide +kernel
theorem dX5_init_9 : decode cX5_init 9 = .ok (.putfield 9, 3) := by decide +kernel
theorem dX5_init_12 : decode cX5_init 12 = .ok (.return_, 1) := by decide +kernel
theorem dX5_begin_0 : decode cX5_begin 0 = .ok (.aload_n 0, 1) := by decide +kernel
theorem dX5_begin_1 : decode cX5_begin 1 = .ok (.iload_n 1, 1) := by decide +kernel
theorem dX5_begin_2 : decode cX5_begin 2 = .ok (.putfield 15, 3) := by decide +kernel
theorem dX5_begin_5 : decode cX5_begin 5 = .ok (.iconst 0, 1) := by decide +kernel
theorem dX5_begin_6 : decode cX5_begin 6 = .ok (.istore_n 3, 1) := by decide +kernel
theorem dX5_begin_7 : decode cX5_begin 7 = .ok (.iload_n 3, 1) := by decide +kernel
theorem dX5_begin_8 : decode cX5_begin 8 = .ok (.iload_n 1, 1) := by decide +kernel
theorem dX5_begin_9 : decode cX5_begin 9 = .ok (.if_icmp .ge 27, 3) := by decide +kernel
theorem dX5_begin_12 : decode cX5_begin 12 = .ok (.aload_n 0, 1) := by decide +kernel
theorem dX5_begin_13 : decode cX5_begin 13 = .ok (.getfield 9, 3) := by decide +kernel
theorem dX5_begin_16 : decode cX5_begin 16 = .ok (.iload_n 3, 1) := by decide +kernel
theorem dX5_begin_17 : decode cX5_begin 17 = .ok (.iload_n 3, 1) := by decide +kernel
theorem dX5_begin_18 : decode cX5_begin 18 = .ok (.iload_n 1, 1) := by decide +kernel
theorem dX5_begin_19 : decode cX5_begin 19 = .ok (.iconst 1, 1) := by decide +kernel
theorem dX5_begin_20 : decode cX5_begin 20 = .ok (.isub, 1) := by decide +kernel
theorem dX5_begin_21 : decode cX5_begin 21 = .ok (.if_icmp .ne 7, 3) := by decide +kernel
theorem dX5_begin_24 : decode cX5_begin 24 = .ok (.iload_n 2, 1) := by decide +kernel
theorem dX5_begin_25 : decode cX5_begin 25 = .ok (.goto 4, 3) := by decide +kernel
theorem dX5_begin_28 : decode cX5_begin 28 = .ok (.iconst 0, 1) := by decide +kernel
theorem dX5_begin_29 : decode cX5_begin 29 = .ok (.iastore, 1) := by decide +kernel
theorem dX5_begin_30 : decode cX5_begin 30 = .ok (.iinc 3 1, 3) := by decide +kernel
theorem dX5_begin_33 : decode cX5_begin 33 = .ok (.goto (-26), 3) := by decide +kernel
theorem dX5_begin_36 : decode cX5_begin 36 = .ok (.return_, 1) := by decide +kernel
theorem dX5_advance_0 : decode cX5_advance 0 = .ok (.aload_n 0, 1) := by decide +kernel
theorem dX5_advance_1 : decode cX5_advance 1 = .ok (.getfield 15, 3) := by decide +kernel
theorem dX5_advance_4 : decode cX5_advance 4 = .ok (.iconst 1, 1) := by decide +kernel
theorem dX5_advance_5 : decode cX5_advance 5 = .ok (.isub, 1) := by decide +kernel
theorem dX5_advance_6 : decode cX5_advance 6 = .ok (.istore_n 1, 1) := by decide +kernel
theorem dX5_advance_7 : decode cX5_advance 7 = .ok (.iload_n 1, 1) := by decide +kernel
theorem dX5_advance_8 : decode cX5_advance 8 = .ok (.ifCond .le 18, 3) := by decide +kernel
theorem dX5_advance_11 : decode cX5_advance 11 = .ok (.aload_n 0, 1) := by decide +kernel
theorem dX5_advance_12 : decode cX5_advance 12 = .ok (.getfield 9, 3) := by decide +kernel
theorem dX5_advance_15 : decode cX5_advance 15 = .ok (.iload_n 1, 1) := by decide +kernel
theorem dX5_advance_16 : decode cX5_advance 16 = .ok (.iaload, 1) := by decide +kernel
theorem dX5_advance_17 : decode cX5_advance 17 = .ok (.ifCond .ne 9, 3) := by decide +kernel
theorem dX5_advance_20 : decode cX5_advance 20 = .ok (.iinc 1 (-1), 3) := by decide +kernel
theorem dX5_advance_23 : decode cX5_advance 23 = .ok (.goto (-16), 3) := by decide +kernel
theorem dX5_advance_26 : decode cX5_advance 26 = .ok (.iload_n 1, 1) := by decide +kernel
theorem dX5_advance_27 : decode cX5_advance 27 = .ok (.ifCond .gt 5, 3) := by decide +kernel
theorem dX5_advance_30 : decode cX5_advance 30 = .ok (.iconst 0, 1) := by decide +kernel
theorem dX5_advance_31 : decode cX5_advance 31 = .ok (.ireturn, 1) := by decide +kernel
theorem dX5_advance_32 : decode cX5_advance 32 = .ok (.aload_n 0, 1) := by decide +kernel
theorem dX5_advance_33 : decode cX5_advance 33 = .ok (.getfield 9, 3) := by decide +kernel
theorem dX5_advance_36 : decode cX5_advance 36 = .ok (.iload_n 1, 1) := by decide +kernel
theorem dX5_advance_37 : decode cX5_advance 37 = .ok (.iaload, 1) := by decide +kernel
theorem dX5_advance_38 : decode cX5_advance 38 = .ok (.iconst 1, 1) := by decide +kernel
theorem dX5_advance_39 : decode cX5_advance 39 = .ok (.isub, 1) := by decide +kernel
theorem dX5_advance_40 : decode cX5_advance 40 = .ok (.istore_n 2, 1) := by decide +kernel
theorem dX5_advance_41 : decode cX5_advance 41 = .ok (.aload_n 0, 1) := by decide +kernel
theorem dX5_advance_42 : decode cX5_advance 42 = .ok (.getfield 9, 3) := by decide +kernel
theorem dX5_advance_45 : decode cX5_advance 45 = .ok (.iload_n 1, 1) := by decide +kernel
theorem dX5_advance_46 : decode cX5_advance 46 = .ok (.iconst 0, 1) := by decide +kernel
theorem dX5_advance_47 : decode cX5_advance 47 = .ok (.iastore, 1) := by decide +kernel
theorem dX5_advance_48 : decode cX5_advance 48 = .ok (.aload_n 0, 1) := by decide +kernel
theorem dX5_advance_49 : decode cX5_advance 49 = .ok (.getfield 9, 3) := by decide +kernel
theorem dX5_advance_52 : decode cX5_advance 52 = .ok (.iload_n 1, 1) := by decide +kernel
theorem dX5_advance_53 : decode cX5_advance 53 = .ok (.iconst 1, 1) := by decide +kernel
theorem dX5_advance_54 : decode cX5_advance 54 = .ok (.isub, 1) := by decide +kernel
theorem dX5_advance_55 : decode cX5_advance 55 = .ok (.dup2, 1) := by decide +kernel
theorem dX5_advance_56 : decode cX5_advance 56 = .ok (.iaload, 1) := by decide +kernel
theorem dX5_advance_57 : decode cX5_advance 57 = .ok (.iconst 1, 1) := by decide +kernel
theorem dX5_advance_58 : decode cX5_advance 58 = .ok (.iadd, 1) := by decide +kernel
theorem dX5_advance_59 : decode cX5_advance 59 = .ok (.iastore, 1) := by decide +kernel
theorem dX5_advance_60 : decode cX5_advance 60 = .ok (.aload_n 0, 1) := by decide +kernel
theorem dX5_advance_61 : decode cX5_advance 61 = .ok (.getfield 9, 3) := by decide +kernel
theorem dX5_advance_64 : decode cX5_advance 64 = .ok (.aload_n 0, 1) := by decide +kernel
theorem dX5_advance_65 : decode cX5_advance 65 = .ok (.getfield 15, 3) := by decide +kernel
theorem dX5_advance_68 : decode cX5_advance 68 = .ok (.iconst 1, 1) := by decide +kernel
theorem dX5_advance_69 : decode cX5_advance 69 = .ok (.isub, 1) := by decide +kernel
theorem dX5_advance_70 : decode cX5_advance 70 = .ok (.iload_n 2, 1) := by decide +kernel
theorem dX5_advance_71 : decode cX5_advance 71 = .ok (.iastore, 1) := by decide +kernel
theorem dX5_advance_72 : decode cX5_advance 72 = .ok (.iconst 1, 1) := by decide +kernel
theorem dX5_advance_73 : decode cX5_advance 73 = .ok (.ireturn, 1) := by decide +kernel
set_option maxRecDepth 20000 in
theorem ggX6_init_X1_init : GoodIn wsX6_init wsX1_init := goodIn_r _ [18, 19, 2, 3, 4, 20, 21, 22, 23, 24, 36, 37, 38, 39, 40, 41] (by decide +kernel) (by decide +kernel)
set_option maxRecDepth 20000 in
theorem gX6_init_X1_init : GoodIn wsX6_init (wsX1_init) := ggX6_init_X1_init
theorem dX6_init_0 : decode cX6_init 0 = .ok (.aload_n 0, 1) := by decide +kernel
theorem dX6_init_1 : decode cX6_init 1 = .ok (.invokespecial 3, 3) := by decide +kernel
theorem dX6_init_4 : decode cX6_init 4 = .ok (.aload_n 0, 1) := by decide +kernel
theorem dX6_init_5 : decode cX6_init 5 = .ok (.bipush 6, 2) := by decide +kernel
theorem dX6_init_7 : decode cX6_init 7 = .ok (.newarray .int, 2) := by decide +kernel
theorem dX6_init_9 : decode cX6_init 9 = .ok (.putfield 11, 3) := by decide +kernel
theorem dX6_init_12 : decode cX6_init 12 = .ok (.aload_n 0, 1) := by decide +kernel
theorem dX6_init_13 : decode cX6_init 13 = .ok (.bipush 7, 2) := by decide +kernel
theorem dX6_init_15 : decode cX6_init 15 = .ok (.newarray .int, 2) := by decide +kernel
theorem dX6_init_17 : decode cX6_init 17 = .ok (.putfield 15, 3) := by decide +kernel
theorem dX6_init_20 : decode cX6_init 20 = .ok (.aload_n 0, 1) := by decide +kernel
theorem dX6_init_21 : decode cX6_init 21 = .ok (.bipush 7, 2) := by decide +kernel
theorem dX6_init_23 : decode cX6_init 23 = .ok (.newarray .int, 2) := by decide +kernel
theorem dX6_init_25 : decode cX6_init 25 = .ok (.putfield 18, 3) := by decide +kernel
theorem dX6_init_28 : decode cX6_init 28 = .ok (.aload_n 0, 1) := by decide +kernel
theorem dX6_init_29 : decode cX6_init 29 = .ok (.bipush 7, 2) := by decide +kernel
theorem dX6_init_31 : decode cX6_init 31 = .ok (.newarray .int, 2) := by decide +kernel
theorem dX6_init_33 : decode cX6_init 33 = .ok (.putfield 21, 3) := by decide +kernel
theorem dX6_init_36 : decode cX6_init 36 = .ok (.aload_n 0, 1) := by decide +kernel
theorem dX6_init_37 : decode cX6_init 37 = .ok (.bipush 8, 2) := by decide +kernel
theorem dX6_init_39 : decode cX6_init 39 = .ok (.newarray .int, 2) := by decide +kernel
theorem dX6_init_41 : decode cX6_init 41 = .ok (.putfield 24, 3) := by decide +kernel
theorem dX6_init_44 : decode cX6_init 44 = .ok (.aload_n 0, 1) := by decide +kernel
theorem dX6_init_45 : decode cX6_init 45 = .ok (.bipush 8, 2) := by decide +kernel
theorem dX6_init_47 : decode cX6_init 47 = .ok (.newarray .int, 2) := by decide +kernel
theorem dX6_init_49 : decode cX6_init 49 = .ok (.putfield 27, 3) := by decide +kernel
theorem dX6_init_52 : decode cX6_init 52 = .ok (.aload_n 0, 1) := by decide +kernel
theorem dX6_init_53 : decode cX6_init 53 = .ok (.bipush 8, 2) := by decide +kernel
theorem dX6_init_55 : decode cX6_init 55 = .ok (.newarray .int, 2) := by decide +kernel
theorem dX6_init_57 : decode cX6_init 57 = .ok (.putfield 30, 3) := by decide +kernel
theorem dX6_init_60 : decode cX6_init 60 = .ok (.aload_n 0, 1) := by decide +kernel
theorem dX6_init_61 : decode cX6_init 61 = .ok (.new 33, 3) := by decide +kernel
theorem dX6_init_64 : decode cX6_init 64 = .ok (.dup, 1) := by decide +kernel
theorem dX6_init_65 : decode cX6_init 65 = .ok (.invokespecial 35, 3) := by decide +kernel
theorem dX6_init_68 : decode cX6_init 68 = .ok (.putfield 36, 3) := by decide +kernel
theorem dX6_init_71 : decode cX6_init 71 = .ok (.return_, 1) := by decide +kernel
set_option maxRecDepth 20000 in
theorem ggX6_become_X1_become : GoodIn wsX6_become wsX1_become := goodIn_r _ [20, 21, 22, 6, 7, 8, 23, 24, 25, 26, 27, 39, 40, 41, 42, 43, 44] (by decide +kernel) (by decide +kernel)
set_option maxRecDepth 20000 in
theorem gX6_become_X1_become : GoodIn wsX6_become (wsV RX6 56 RX1 yX1_become wsX1_become) := goodIn_app (goodIn_of _ (by decide +kernel)) ggX6_become_X1_become
theorem dX6_become_0 : decode cX6_become 0 = .ok (.aload_n 0, 1) := by decide +kernel
theorem dX6_become_1 : decode cX6_become 1 = .ok (.aload_n 1, 1) := by decide +kernel
theorem dX6_become_2 : decode cX6_become 2 = .ok (.getfield 40, 3) := by decide +kernel
theorem dX6_become_5 : decode cX6_become 5 = .ok (.putfield 40, 3) := by decide +kernel
theorem dX6_become_8 : decode cX6_become 8 = .ok (.aload_n 0, 1) := by decide +kernel
theorem dX6_become_9 : decode cX6_become 9 = .ok (.aload_n 1, 1) := by decide +kernel
theorem dX6_become_10 : decode cX6_become 10 = .ok (.getfield 44, 3) := by decide +kernel
theorem dX6_become_13 : decode cX6_become 13 = .ok (.putfield 44, 3) := by decide +kernel
theorem dX6_become_16 : decode cX6_become 16 = .ok (.aload_n 0, 1) := by decide +kernel
theorem dX6_become_17 : decode cX6_become 17 = .ok (.aload_n 1, 1) := by decide +kernel
theorem dX6_become_18 : decode cX6_become 18 = .ok (.getfield 47, 3) := by decide +kernel
theorem dX6_become_21 : decode cX6_become 21 = .ok (.putfield 47, 3) := by decide +kernel
theorem dX6_become_24 : decode cX6_become 24 = .ok (.aload_n 1, 1) := by decide +kernel
theorem dX6_become_25 : decode cX6_become 25 = .ok (.getfield 11, 3) := by decide +kernel
theorem dX6_become_28 : decode cX6_become 28 = .ok (.iconst 0, 1) := by decide +kernel
theorem dX6_become_29 : decode cX6_become 29 = .ok (.aload_n 0, 1) := by decide +kernel
theorem dX6_become_30 : decode cX6_become 30 = .ok (.getfield 11, 3) := by decide +kernel
theorem dX6_become_33 : decode cX6_become 33 = .ok (.iconst 0, 1) := by decide +kernel
theorem dX6_become_34 : decode cX6_become 34 = .ok (.bipush 6, 2) := by decide +kernel
theorem dX6_become_36 : decode cX6_become 36 = .ok (.invokestatic 50, 3) := by decide +kernel
theorem dX6_become_39 : decode cX6_become 39 = .ok (.aload_n 1, 1) := by decide +kernel
theorem dX6_become_40 : decode cX6_become 40 = .ok (.getfield 15, 3) := by decide +kernel
theorem dX6_become_43 : decode cX6_become 43 = .ok (.iconst 0, 1) := by decide +kernel
theorem dX6_become_44 : decode cX6_become 44 = .ok (.aload_n 0, 1) := by decide +kernel
theorem dX6_become_45 : decode cX6_become 45 = .ok (.getfield 15, 3) := by decide +kernel
theorem dX6_become_48 : decode cX6_become 48 = .ok (.iconst 0, 1) := by decide +kernel
theorem dX6_become_49 : decode cX6_become 49 = .ok (.bipush 7, 2) := by decide +kernel
theorem dX6_become_51 : decode cX6_become 51 = .ok (.invokestatic 50, 3) := by decide +kernel
theorem dX6_become_54 : decode cX6_become 54 = .ok (.aload_n 1, 1) := by decide +kernel
theorem dX6_become_55 : decode cX6_become 55 = .ok (.getfield 18, 3) := by decide +kernel
theorem dX6_become_58 : decode cX6_become 58 = .ok (.iconst 0, 1) := by decide +kernel
theorem dX6_become_59 : decode cX6_become 59 = .ok (.aload_n 0, 1) := by decide +kernel
theorem dX6_become_60 : decode cX6_become 60 = .ok (.getfield 18, 3) := by decide +kernel
theorem dX6_become_63 : decode cX6_become 63 = .ok (.iconst 0, 1) := by decide +kernel
theorem dX6_become_64 : decode cX6_become 64 = .ok (.bipush 7, 2) := by decide +kernel
theorem dX6_become_66 : decode cX6_become 66 = .ok (.invokestatic 50, 3) := by decide +kernel
theorem dX6_become_69 : decode cX6_become 69 = .ok (.aload_n 1, 1) := by decide +kernel
theorem dX6_become_70 : decode cX6_become 70 = .ok (.getfield 21, 3) := by decide +kernel
theorem dX6_become_73 : decode cX6_become 73 = .ok (.iconst 0, 1) := by decide +kernel
theorem dX6_become_74 : decode cX6_become 74 = .ok (.aload_n 0, 1) := by decide +kernel
theorem dX6_become_75 : decode cX6_become 75 = .ok (.getfield 21, 3) := by decide +kernel
theorem dX6_become_78 : decode cX6_become 78 = .ok (.iconst 0, 1) := by decide +kernel
theorem dX6_become_79 : decode cX6_become 79 = .ok (.bipush 7, 2) := by decide +kernel
theorem dX6_become_81 : decode cX6_become 81 = .ok (.invokestatic 50, 3) := by decide +kernel
theorem dX6_become_84 : decode cX6_become 84 = .ok (.aload_n 1, 1) := by decide +kernel
theorem dX6_become_85 : decode cX6_become 85 = .ok (.getfield 24, 3) := by decide +kernel
theorem dX6_become_88 : decode cX6_become 88 = .ok (.iconst 0, 1) := by decide +kernel
theorem dX6_become_89 : decode cX6_become 89 = .ok (.aload_n 0, 1) := by decide +kernel
theorem dX6_become_90 : decode cX6_become 90 = .ok (.getfield 24, 3) := by decide +kernel
theorem dX6_become_93 : decode cX6_become 93 = .ok (.iconst 0, 1) := by decide +kernel
theorem dX6_become_94 : decode cX6_become 94 = .ok (.bipush 8, 2) := by decide +kernel
theorem dX6_become_96 : decode cX6_become 96 = .ok (.invokestatic 50, 3) := by decide +kernel
theorem dX6_become_99 : decode cX6_become 99 = .ok (.aload_n 1, 1) := by decide +kernel
theorem dX6_become_100 : decode cX6_become 100 = .ok (.getfield 27, 3) := by decide +kernel
theorem dX6_become_103 : decode cX6_become 103 = .ok (.iconst 0, 1) := by decide +kernel
theorem dX6_become_104 : decode cX6_become 104 = .ok (.aload_n 0, 1) := by decide +kernel
theorem dX6_become_105 : decode cX6_become 105 = .ok (.getfield 27, 3) := by decide +kernel
theorem dX6_become_108 : decode cX6_become 108 = .ok (.iconst 0, 1) := by decide +kernel
theorem dX6_become_109 : decode cX6_become 109 = .ok (.bipush 8, 2) := by decide +kernel
theorem dX6_become_111 : decode cX6_become 111 = .ok (.invokestatic 50, 3) := by decide +kernel
theorem dX6_become_114 : decode cX6_become 114 = .ok (.aload_n 1, 1) := by decide +kernel
theorem dX6_become_115 : decode cX6_become 115 = .ok (.getfield 30, 3) := by decide +kernel
theorem dX6_become_118 : decode cX6_become 118 = .ok (.iconst 0, 1) := by decide +kernel
theorem dX6_become_119 : decode cX6_become 119 = .ok (.aload_n 0, 1) := by decide +kernel
theorem dX6_become_120 : decode cX6_become 120 = .ok (.getfield 30, 3) := by decide +kernel
theorem dX6_become_123 : decode cX6_become 123 = .ok (.iconst 0, 1) := by decide +kernel
theorem dX6_become_124 : decode cX6_become 124 = .ok (.bipush 8, 2) := by decide +kernel
theorem dX6_become_126 : decode cX6_become 126 = .ok (.invokestatic 50, 3) := by decide +kernel
theorem dX6_become_129 : decode cX6_become 129 = .ok (.aload_n 0, 1) := by decide +kernel
theorem dX6_become_130 : decode cX6_become 130 = .ok (.getfield 36, 3) := by decide +kernel
theorem dX6_become_133 : decode cX6_become 133 = .ok (.aload_n 1, 1) := by decide +kernel
theorem dX6_become_134 : decode cX6_become 134 = .ok (.getfield 36, 3) := by decide +kernel
theorem dX6_become_137 : decode cX6_become 137 = .ok (.invokevirtual 56, 3) := by decide +kernel
theorem dX6_become_140 : decode cX6_become 140 = .ok (.return_, 1) := by decide +kernel
set_option maxRecDepth 20000 in
theorem ggX6_readFrom_X1_begin : GoodIn wsX6_readFrom wsX1_begin := goodIn_r _ [10, 11, 12, 62, 63, 64, 65, 66, 67] (by decide +kernel) (by decide +kernel)
set_option maxRecDepth 20000 in
theorem gX6_readFrom_X1_begin : GoodIn wsX6_readFrom (wsV RX6 60 RX1 yX1_begin wsX1_begin) := goodIn_app (goodIn_of _ (by decide +kernel)) ggX6_readFrom_X1_begin
set_option maxRecDepth 20000 in
theorem ggX6_readFrom_X7_pastBlanks : GoodIn wsX6_readFrom wsX7_pastBlanks := goodIn_r _ [17, 18, 19, 20, 21, 16, 22, 23, 24, 25, 26, 27, 68, 69] (by decide +kernel) (by decide +kernel)
set_option maxRecDepth 20000 in
theorem gX6_readFrom_X7_pastBlanks : GoodIn wsX6_readFrom (wsV RX6 63 RX7 yX7_pastBlanks wsX7_pastBlanks) := goodIn_app (goodIn_of _ (by decide +kernel)) ggX6_readFrom_X7_pastBlanks
set_option maxRecDepth 20000 in
theorem ggX6_readFrom_X7_sign : GoodIn wsX6_readFrom wsX7_sign := goodIn_r _ [22, 23, 24, 25, 26, 16, 27, 18, 68, 69] (by decide +kernel) (by decide +kernel)
set_option maxRecDepth 20000 in
theorem gX6_readFrom_X7_sign : GoodIn wsX6_readFrom (wsV RX6 69 RX7 yX7_sign wsX7_sign) := goodIn_app (goodIn_of _ (by decide +kernel)) ggX6_readFrom_X7_sign
set_option maxRecDepth 20000 in
theorem ggX6_readFrom_X7_isFigure : GoodIn wsX6_readFrom wsX7_isFigure := goodIn_r _ [32, 19, 20, 21, 16, 22, 23, 24, 25, 26, 27, 18, 68, 69] (by decide +kernel) (by decide +kernel)
set_option maxRecDepth 20000 in
theorem gX6_readFrom_X7_isFigure : GoodIn wsX6_readFrom (wsV RX6 72 RX7 yX7_isFigure wsX7_isFigure) := goodIn_app (goodIn_of _ (by decide +kernel)) ggX6_readFrom_X7_isFigure
set_option maxRecDepth 20000 in
theorem ggX6_readFrom_X6_measure : GoodIn wsX6_readFrom wsX6_measure := goodIn_r _ [37, 1, 38, 5, 51, 52, 53, 54, 55, 56, 57, 58, 59, 60, 61] (by decide +kernel) (by decide +kernel)
set_option maxRecDepth 20000 in
theorem gX6_readFrom_X6_measure : GoodIn wsX6_readFrom (wsV RX6 76 RX6 yX6_measure wsX6_measure) := goodIn_app (goodIn_of _ (by decide +kernel)) ggX6_readFrom_X6_measure
set_option maxRecDepth 20000 in
theorem ggX6_readFrom_X6_readPeople : GoodIn wsX6_readFrom wsX6_readPeople := goodIn_r _ [42, 43, 2, 1, 44, 45, 13, 14, 15, 16, 17, 18, 19, 20, 21, 22, 23, 24, 25, 26, 27, 28, 46, 47, 48, 49, 50, 68, 69, 51, 52, 53, 54, 55, 56, 57, 58, 59, 60, 61] (by decide +kernel) (by decide +kernel)
set_option maxRecDepth 20000 in
theorem gX6_readFrom_X6_readPeople : GoodIn wsX6_readFrom (wsV RX6 79 RX6 yX6_readPeople wsX6_readPeople) := goodIn_app (goodIn_of _ (by decide +kernel)) ggX6_readFrom_X6_readPeople
theorem dX6_readFrom_0 : decode cX6_readFrom 0 = .ok (.aload_n 0, 1) := by decide +kernel
theorem dX6_readFrom_1 : decode cX6_readFrom 1 = .ok (.iconst 0, 1) := by decide +kernel
theorem dX6_readFrom_2 : decode cX6_readFrom 2 = .ok (.putfield 40, 3) := by decide +kernel
theorem dX6_readFrom_5 : decode cX6_readFrom 5 = .ok (.aload_n 0, 1) := by decide +kernel
theorem dX6_readFrom_6 : decode cX6_readFrom 6 = .ok (.iconst 0, 1) := by decide +kernel
theorem dX6_readFrom_7 : decode cX6_readFrom 7 = .ok (.putfield 44, 3) := by decide +kernel
theorem dX6_readFrom_10 : decode cX6_readFrom 10 = .ok (.aload_n 0, 1) := by decide +kernel
theorem dX6_readFrom_11 : decode cX6_readFrom 11 = .ok (.iconst 0, 1) := by decide +kernel
theorem dX6_readFrom_12 : decode cX6_readFrom 12 = .ok (.putfield 47, 3) := by decide +kernel
theorem dX6_readFrom_15 : decode cX6_readFrom 15 = .ok (.aload_n 0, 1) := by decide +kernel
theorem dX6_readFrom_16 : decode cX6_readFrom 16 = .ok (.getfield 36, 3) := by decide +kernel
theorem dX6_readFrom_19 : decode cX6_readFrom 19 = .ok (.invokevirtual 60, 3) := by decide +kernel
theorem dX6_readFrom_22 : decode cX6_readFrom 22 = .ok (.aload_n 1, 1) := by decide +kernel
theorem dX6_readFrom_23 : decode cX6_readFrom 23 = .ok (.iconst 0, 1) := by decide +kernel
theorem dX6_readFrom_24 : decode cX6_readFrom 24 = .ok (.invokevirtual 63, 3) := by decide +kernel
theorem dX6_readFrom_27 : decode cX6_readFrom 27 = .ok (.istore_n 2, 1) := by decide +kernel
theorem dX6_readFrom_28 : decode cX6_readFrom 28 = .ok (.aload_n 1, 1) := by decide +kernel
theorem dX6_readFrom_29 : decode cX6_readFrom 29 = .ok (.iload_n 2, 1) := by decide +kernel
theorem dX6_readFrom_30 : decode cX6_readFrom 30 = .ok (.invokevirtual 69, 3) := by decide +kernel
theorem dX6_readFrom_33 : decode cX6_readFrom 33 = .ok (.bipush 112, 2) := by decide +kernel
theorem dX6_readFrom_35 : decode cX6_readFrom 35 = .ok (.if_icmp .eq 5, 3) := by decide +kernel
theorem dX6_readFrom_38 : decode cX6_readFrom 38 = .ok (.iload_n 2, 1) := by decide +kernel
theorem dX6_readFrom_39 : decode cX6_readFrom 39 = .ok (.ireturn, 1) := by decide +kernel
theorem dX6_readFrom_40 : decode cX6_readFrom 40 = .ok (.iinc 2 1, 3) := by decide +kernel
theorem dX6_readFrom_43 : decode cX6_readFrom 43 = .ok (.aload_n 0, 1) := by decide +kernel
theorem dX6_readFrom_44 : decode cX6_readFrom 44 = .ok (.getfield 40, 3) := by decide +kernel
theorem dX6_readFrom_47 : decode cX6_readFrom 47 = .ok (.bipush 6, 2) := by decide +kernel
theorem dX6_readFrom_49 : decode cX6_readFrom 49 = .ok (.if_icmp .ge 44, 3) := by decide +kernel
theorem dX6_readFrom_52 : decode cX6_readFrom 52 = .ok (.aload_n 1, 1) := by decide +kernel
theorem dX6_readFrom_53 : decode cX6_readFrom 53 = .ok (.iload_n 2, 1) := by decide +kernel
theorem dX6_readFrom_54 : decode cX6_readFrom 54 = .ok (.invokevirtual 72, 3) := by decide +kernel
theorem dX6_readFrom_57 : decode cX6_readFrom 57 = .ok (.ifCond .eq 36, 3) := by decide +kernel
theorem dX6_readFrom_60 : decode cX6_readFrom 60 = .ok (.aload_n 0, 1) := by decide +kernel
theorem dX6_readFrom_61 : decode cX6_readFrom 61 = .ok (.getfield 11, 3) := by decide +kernel
theorem dX6_readFrom_64 : decode cX6_readFrom 64 = .ok (.aload_n 0, 1) := by decide +kernel
theorem dX6_readFrom_65 : decode cX6_readFrom 65 = .ok (.getfield 40, 3) := by decide +kernel
theorem dX6_readFrom_68 : decode cX6_readFrom 68 = .ok (.aload_n 1, 1) := by decide +kernel
theorem dX6_readFrom_69 : decode cX6_readFrom 69 = .ok (.iload_n 2, 1) := by decide +kernel
theorem dX6_readFrom_70 : decode cX6_readFrom 70 = .ok (.invokevirtual 69, 3) := by decide +kernel
theorem dX6_readFrom_73 : decode cX6_readFrom 73 = .ok (.bipush 48, 2) := by decide +kernel
theorem dX6_readFrom_75 : decode cX6_readFrom 75 = .ok (.isub, 1) := by decide +kernel
theorem dX6_readFrom_76 : decode cX6_readFrom 76 = .ok (.iastore, 1) := by decide +kernel
theorem dX6_readFrom_77 : decode cX6_readFrom 77 = .ok (.aload_n 0, 1) := by decide +kernel
theorem dX6_readFrom_78 : decode cX6_readFrom 78 = .ok (.dup, 1) := by decide +kernel
theorem dX6_readFrom_79 : decode cX6_readFrom 79 = .ok (.getfield 40, 3) := by decide +kernel
theorem dX6_readFrom_82 : decode cX6_readFrom 82 = .ok (.iconst 1, 1) := by decide +kernel
theorem dX6_readFrom_83 : decode cX6_readFrom 83 = .ok (.iadd, 1) := by decide +kernel
theorem dX6_readFrom_84 : decode cX6_readFrom 84 = .ok (.putfield 40, 3) := by decide +kernel
theorem dX6_readFrom_87 : decode cX6_readFrom 87 = .ok (.iinc 2 1, 3) := by decide +kernel
theorem dX6_readFrom_90 : decode cX6_readFrom 90 = .ok (.goto (-47), 3) := by decide +kernel
theorem dX6_readFrom_93 : decode cX6_readFrom 93 = .ok (.aload_n 0, 1) := by decide +kernel
theorem dX6_readFrom_94 : decode cX6_readFrom 94 = .ok (.invokevirtual 76, 3) := by decide +kernel
theorem dX6_readFrom_97 : decode cX6_readFrom 97 = .ok (.aload_n 0, 1) := by decide +kernel
theorem dX6_readFrom_98 : decode cX6_readFrom 98 = .ok (.getfield 40, 3) := by decide +kernel
theorem dX6_readFrom_101 : decode cX6_readFrom 101 = .ok (.ifCond .ne 7, 3) := by decide +kernel
theorem dX6_readFrom_104 : decode cX6_readFrom 104 = .ok (.iload_n 2, 1) := by decide +kernel
theorem dX6_readFrom_105 : decode cX6_readFrom 105 = .ok (.goto 9, 3) := by decide +kernel
theorem dX6_readFrom_108 : decode cX6_readFrom 108 = .ok (.aload_n 0, 1) := by decide +kernel
theorem dX6_readFrom_109 : decode cX6_readFrom 109 = .ok (.aload_n 1, 1) := by decide +kernel
theorem dX6_readFrom_110 : decode cX6_readFrom 110 = .ok (.iload_n 2, 1) := by decide +kernel
theorem dX6_readFrom_111 : decode cX6_readFrom 111 = .ok (.invokevirtual 79, 3) := by decide +kernel
theorem dX6_readFrom_114 : decode cX6_readFrom 114 = .ok (.ireturn, 1) := by decide +kernel
set_option maxRecDepth 20000 in
theorem ggX6_readPeople_X7_pastBlanks : GoodIn wsX6_readPeople wsX7_pastBlanks := goodIn_r _ [10, 11, 12, 13, 14, 9, 15, 16, 17, 18, 19, 20, 27, 28] (by decide +kernel) (by decide +kernel)
set_option maxRecDepth 20000 in
theorem gX6_readPeople_X7_pastBlanks : GoodIn wsX6_readPeople (wsV RX6 63 RX7 yX7_pastBlanks wsX7_pastBlanks) := goodIn_app (goodIn_of _ (by decide +kernel)) ggX6_readPeople_X7_pastBlanks
set_option maxRecDepth 20000 in
theorem ggX6_readPeople_X7_sign : GoodIn wsX6_readPeople wsX7_sign := goodIn_r _ [15, 16, 17, 18, 19, 9, 20, 11, 27, 28] (by decide +kernel) (by decide +kernel)
set_option maxRecDepth 20000 in
theorem gX6_readPeople_X7_sign : GoodIn wsX6_readPeople (wsV RX6 69 RX7 yX7_sign wsX7_sign) := goodIn_app (goodIn_of _ (by decide +kernel)) ggX6_readPeople_X7_sign
set_option maxRecDepth 20000 in
theorem ggX6_readPeople_X2_byLetter : GoodIn wsX6_readPeople wsX2_byLetter := goodIn_r _ [25, 26] (by decide +kernel) (by decide +kernel)
set_option maxRecDepth 20000 in
theorem gX6_readPeople_X2_byLetter : GoodIn wsX6_readPeople (va_wsS RX6 86 yX2_byLetter wsX2_byLetter) := goodIn_app (goodIn_of _ (by decide +kernel)) ggX6_readPeople_X2_byLetter
theorem dX6_readPeople_0 : decode cX6_readPeople 0 = .ok (.aload_n 1, 1) := by decide +kernel
theorem dX6_readPeople_1 : decode cX6_readPeople 1 = .ok (.iload_n 2, 1) := by decide +kernel
theorem dX6_readPeople_2 : decode cX6_readPeople 2 = .ok (.invokevirtual 63, 3) := by decide +kernel
theorem dX6_readPeople_5 : decode cX6_readPeople 5 = .ok (.istore_n 3, 1) := by decide +kernel
theorem dX6_readPeople_6 : decode cX6_readPeople 6 = .ok (.iload_n 3, 1) := by decide +kernel
theorem dX6_readPeople_7 : decode cX6_readPeople 7 = .ok (.aload_n 1, 1) := by decide +kernel
theorem dX6_readPeople_8 : decode cX6_readPeople 8 = .ok (.getfield 83, 3) := by decide +kernel
theorem dX6_readPeople_11 : decode cX6_readPeople 11 = .ok (.if_icmp .ge 104, 3) := by decide +kernel
theorem dX6_readPeople_14 : decode cX6_readPeople 14 = .ok (.aload_n 0, 1) := by decide +kernel
theorem dX6_readPeople_15 : decode cX6_readPeople 15 = .ok (.getfield 44, 3) := by decide +kernel
theorem dX6_readPeople_18 : decode cX6_readPeople 18 = .ok (.bipush 7, 2) := by decide +kernel
theorem dX6_readPeople_20 : decode cX6_readPeople 20 = .ok (.if_icmp .ge 95, 3) := by decide +kernel
theorem dX6_readPeople_23 : decode cX6_readPeople 23 = .ok (.aload_n 1, 1) := by decide +kernel
theorem dX6_readPeople_24 : decode cX6_readPeople 24 = .ok (.iload_n 3, 1) := by decide +kernel
theorem dX6_readPeople_25 : decode cX6_readPeople 25 = .ok (.invokevirtual 69, 3) := by decide +kernel
theorem dX6_readPeople_28 : decode cX6_readPeople 28 = .ok (.invokestatic 86, 3) := by decide +kernel
theorem dX6_readPeople_31 : decode cX6_readPeople 31 = .ok (.istore 4, 2) := by decide +kernel
theorem dX6_readPeople_33 : decode cX6_readPeople 33 = .ok (.iload 4, 2) := by decide +kernel
theorem dX6_readPeople_35 : decode cX6_readPeople 35 = .ok (.bipush (-9), 2) := by decide +kernel
theorem dX6_readPeople_37 : decode cX6_readPeople 37 = .ok (.if_icmp .ne 5, 3) := by decide +kernel
theorem dX6_readPeople_40 : decode cX6_readPeople 40 = .ok (.iload_n 3, 1) := by decide +kernel
theorem dX6_readPeople_41 : decode cX6_readPeople 41 = .ok (.ireturn, 1) := by decide +kernel
theorem dX6_readPeople_42 : decode cX6_readPeople 42 = .ok (.aload_n 1, 1) := by decide +kernel
theorem dX6_readPeople_43 : decode cX6_readPeople 43 = .ok (.iload_n 3, 1) := by decide +kernel
theorem dX6_readPeople_44 : decode cX6_readPeople 44 = .ok (.iconst 1, 1) := by decide +kernel
theorem dX6_readPeople_45 : decode cX6_readPeople 45 = .ok (.iadd, 1) := by decide +kernel
theorem dX6_readPeople_46 : decode cX6_readPeople 46 = .ok (.invokevirtual 69, 3) := by decide +kernel
theorem dX6_readPeople_49 : decode cX6_readPeople 49 = .ok (.bipush 48, 2) := by decide +kernel
theorem dX6_readPeople_51 : decode cX6_readPeople 51 = .ok (.isub, 1) := by decide +kernel
theorem dX6_readPeople_52 : decode cX6_readPeople 52 = .ok (.istore 5, 2) := by decide +kernel
theorem dX6_readPeople_54 : decode cX6_readPeople 54 = .ok (.iload 5, 2) := by decide +kernel
theorem dX6_readPeople_56 : decode cX6_readPeople 56 = .ok (.ifCond .lt 12, 3) := by decide +kernel
theorem dX6_readPeople_59 : decode cX6_readPeople 59 = .ok (.iload 5, 2) := by decide +kernel
theorem dX6_readPeople_61 : decode cX6_readPeople 61 = .ok (.aload_n 0, 1) := by decide +kernel
theorem dX6_readPeople_62 : decode cX6_readPeople 62 = .ok (.getfield 40, 3) := by decide +kernel
theorem dX6_readPeople_65 : decode cX6_readPeople 65 = .ok (.if_icmp .le 7, 3) := by decide +kernel
theorem dX6_readPeople_68 : decode cX6_readPeople 68 = .ok (.iload_n 3, 1) := by decide +kernel
theorem dX6_readPeople_69 : decode cX6_readPeople 69 = .ok (.iconst 1, 1) := by decide +kernel
theorem dX6_readPeople_70 : decode cX6_readPeople 70 = .ok (.iadd, 1) := by decide +kernel
theorem dX6_readPeople_71 : decode cX6_readPeople 71 = .ok (.ireturn, 1) := by decide +kernel
theorem dX6_readPeople_72 : decode cX6_readPeople 72 = .ok (.aload_n 0, 1) := by decide +kernel
theorem dX6_readPeople_73 : decode cX6_readPeople 73 = .ok (.getfield 18, 3) := by decide +kernel
theorem dX6_readPeople_76 : decode cX6_readPeople 76 = .ok (.aload_n 0, 1) := by decide +kernel
theorem dX6_readPeople_77 : decode cX6_readPeople 77 = .ok (.getfield 44, 3) := by decide +kernel
theorem dX6_readPeople_80 : decode cX6_readPeople 80 = .ok (.iload 4, 2) := by decide +kernel
theorem dX6_readPeople_82 : decode cX6_readPeople 82 = .ok (.iastore, 1) := by decide +kernel
theorem dX6_readPeople_83 : decode cX6_readPeople 83 = .ok (.aload_n 0, 1) := by decide +kernel
theorem dX6_readPeople_84 : decode cX6_readPeople 84 = .ok (.getfield 21, 3) := by decide +kernel
theorem dX6_readPeople_87 : decode cX6_readPeople 87 = .ok (.aload_n 0, 1) := by decide +kernel
theorem dX6_readPeople_88 : decode cX6_readPeople 88 = .ok (.getfield 44, 3) := by decide +kernel
theorem dX6_readPeople_91 : decode cX6_readPeople 91 = .ok (.iload 5, 2) := by decide +kernel
theorem dX6_readPeople_93 : decode cX6_readPeople 93 = .ok (.iastore, 1) := by decide +kernel
theorem dX6_readPeople_94 : decode cX6_readPeople 94 = .ok (.aload_n 0, 1) := by decide +kernel
theorem dX6_readPeople_95 : decode cX6_readPeople 95 = .ok (.dup, 1) := by decide +kernel
theorem dX6_readPeople_96 : decode cX6_readPeople 96 = .ok (.getfield 44, 3) := by decide +kernel
theorem dX6_readPeople_99 : decode cX6_readPeople 99 = .ok (.iconst 1, 1) := by decide +kernel
theorem dX6_readPeople_100 : decode cX6_readPeople 100 = .ok (.iadd, 1) := by decide +kernel
theorem dX6_readPeople_101 : decode cX6_readPeople 101 = .ok (.putfield 44, 3) := by decide +kernel
theorem dX6_readPeople_104 : decode cX6_readPeople 104 = .ok (.aload_n 1, 1) := by decide +kernel
theorem dX6_readPeople_105 : decode cX6_readPeople 105 = .ok (.iload_n 3, 1) := by decide +kernel
theorem dX6_readPeople_106 : decode cX6_readPeople 106 = .ok (.iconst 2, 1) := by decide +kernel
theorem dX6_readPeople_107 : decode cX6_readPeople 107 = .ok (.iadd, 1) := by decide +kernel
theorem dX6_readPeople_108 : decode cX6_readPeople 108 = .ok (.invokevirtual 63, 3) := by decide +kernel
theorem dX6_readPeople_111 : decode cX6_readPeople 111 = .ok (.istore_n 3, 1) := by decide +kernel
theorem dX6_readPeople_112 : decode cX6_readPeople 112 = .ok (.goto (-106), 3) := by decide +kernel
theorem dX6_readPeople_115 : decode cX6_readPeople 115 = .ok (.iload_n 3, 1) := by decide +kernel
theorem dX6_readPeople_116 : decode cX6_readPeople 116 = .ok (.aload_n 1, 1) := by decide +kernel
theorem dX6_readPeople_117 : decode cX6_readPeople 117 = .ok (.getfield 83, 3) := by decide +kernel
theorem dX6_readPeople_120 : decode cX6_readPeople 120 = .ok (.if_icmp .ge 7, 3) := by decide +kernel
theorem dX6_readPeople_123 : decode cX6_readPeople 123 = .ok (.iload_n 3, 1) := by decide +kernel
theorem dX6_readPeople_124 : decode cX6_readPeople 124 = .ok (.goto 5, 3) := by decide +kernel
theorem dX6_readPeople_127 : decode cX6_readPeople 127 = .ok (.bipush (-9), 2) := by decide +kernel
theorem dX6_readPeople_129 : decode cX6_readPeople 129 = .ok (.ireturn, 1) := by decide +kernel
theorem dX6_measure_0 : decode cX6_measure 0 = .ok (.iconst 0, 1) := by decide +kernel
theorem dX6_measure_1 : decode cX6_measure 1 = .ok (.istore_n 1, 1) := by decide +kernel
theorem dX6_measure_2 : decode cX6_measure 2 = .ok (.iload_n 1, 1) := by decide +kernel
theorem dX6_measure_3 : decode cX6_measure 3 = .ok (.aload_n 0, 1) := by decide +kernel
theorem dX6_measure_4 : decode cX6_measure 4 = .ok (.getfield 40, 3) := by decide +kernel
theorem dX6_measure_7 : decode cX6_measure 7 = .ok (.if_icmp .ge 30, 3) := by decide +kernel
theorem dX6_measure_10 : decode cX6_measure 10 = .ok (.aload_n 0, 1) := by decide +kernel
theorem dX6_measure_11 : decode cX6_measure 11 = .ok (.getfield 15, 3) := by decide +kernel
theorem dX6_measure_14 : decode cX6_measure 14 = .ok (.iload_n 1, 1) := by decide +kernel
theorem dX6_measure_15 : decode cX6_measure 15 = .ok (.iconst 1, 1) := by decide +kernel
theorem dX6_measure_16 : decode cX6_measure 16 = .ok (.iadd, 1) := by decide +kernel
theorem dX6_measure_17 : decode cX6_measure 17 = .ok (.aload_n 0, 1) := by decide +kernel
theorem dX6_measure_18 : decode cX6_measure 18 = .ok (.getfield 15, 3) := by decide +kernel
theorem dX6_measure_21 : decode cX6_measure 21 = .ok (.iload_n 1, 1) := by decide +kernel
theorem dX6_measure_22 : decode cX6_measure 22 = .ok (.iaload, 1) := by decide +kernel
theorem dX6_measure_23 : decode cX6_measure 23 = .ok (.aload_n 0, 1) := by decide +kernel
theorem dX6_measure_24 : decode cX6_measure 24 = .ok (.getfield 11, 3) := by decide +kernel
theorem dX6_measure_27 : decode cX6_measure 27 = .ok (.iload_n 1, 1) := by decide +kernel
theorem dX6_measure_28 : decode cX6_measure 28 = .ok (.iaload, 1) := by decide +kernel
theorem dX6_measure_29 : decode cX6_measure 29 = .ok (.iadd, 1) := by decide +kernel
theorem dX6_measure_30 : decode cX6_measure 30 = .ok (.iastore, 1) := by decide +kernel
theorem dX6_measure_31 : decode cX6_measure 31 = .ok (.iinc 1 1, 3) := by decide +kernel
theorem dX6_measure_34 : decode cX6_measure 34 = .ok (.goto (-32), 3) := by decide +kernel
theorem dX6_measure_37 : decode cX6_measure 37 = .ok (.return_, 1) := by decide +kernel
theorem dX6_everyone_0 : decode cX6_everyone 0 = .ok (.iconst 1, 1) := by decide +kernel
theorem dX6_everyone_1 : decode cX6_everyone 1 = .ok (.aload_n 0, 1) := by decide +kernel
theorem dX6_everyone_2 : decode cX6_everyone 2 = .ok (.getfield 44, 3) := by decide +kernel
theorem dX6_everyone_5 : decode cX6_everyone 5 = .ok (.ishl, 1) := by decide +kernel
theorem dX6_everyone_6 : decode cX6_everyone 6 = .ok (.iconst 1, 1) := by decide +kernel
theorem dX6_everyone_7 : decode cX6_everyone 7 = .ok (.isub, 1) := by decide +kernel
theorem dX6_everyone_8 : decode cX6_everyone 8 = .ok (.ireturn, 1) := by decide +kernel
theorem dX6_everyTalk_0 : decode cX6_everyTalk 0 = .ok (.iconst 1, 1) := by decide +kernel
theorem dX6_everyTalk_1 : decode cX6_everyTalk 1 = .ok (.aload_n 0, 1) := by decide +kernel
theorem dX6_everyTalk_2 : decode cX6_everyTalk 2 = .ok (.getfield 47, 3) := by decide +kernel
theorem dX6_everyTalk_5 : decode cX6_everyTalk 5 = .ok (.ishl, 1) := by decide +kernel
theorem dX6_everyTalk_6 : decode cX6_everyTalk 6 = .ok (.iconst 1, 1) := by decide +kernel
theorem dX6_everyTalk_7 : decode cX6_everyTalk 7 = .ok (.isub, 1) := by decide +kernel
theorem dX6_everyTalk_8 : decode cX6_everyTalk 8 = .ok (.ireturn, 1) := by decide +kernel
set_option maxRecDepth 20000 in
theorem ggX6_howManyOf_X2_isOf : GoodIn wsX6_howManyOf wsX2_isOf := goodIn_r _ [6, 7] (by decide +kernel) (by decide +kernel)
set_option maxRecDepth 20000 in
theorem gX6_howManyOf_X2_isOf : GoodIn wsX6_howManyOf (va_wsS RX6 100 yX2_isOf wsX2_isOf) := goodIn_app (goodIn_of _ (by decide +kernel)) ggX6_howManyOf_X2_isOf
theorem dX6_howManyOf_0 : decode cX6_howManyOf 0 = .ok (.iconst 0, 1) := by decide +kernel
theorem dX6_howManyOf_1 : decode cX6_howManyOf 1 = .ok (.istore_n 2, 1) := by decide +kernel
theorem dX6_howManyOf_2 : decode cX6_howManyOf 2 = .ok (.iconst 0, 1) := by decide +kernel
theorem dX6_howManyOf_3 : decode cX6_howManyOf 3 = .ok (.istore_n 3, 1) := by decide +kernel
theorem dX6_howManyOf_4 : decode cX6_howManyOf 4 = .ok (.iload_n 3, 1) := by decide +kernel
theorem dX6_howManyOf_5 : decode cX6_howManyOf 5 = .ok (.aload_n 0, 1) := by decide +kernel
theorem dX6_howManyOf_6 : decode cX6_howManyOf 6 = .ok (.getfield 44, 3) := by decide +kernel
theorem dX6_howManyOf_9 : decode cX6_howManyOf 9 = .ok (.if_icmp .ge 30, 3) := by decide +kernel
theorem dX6_howManyOf_12 : decode cX6_howManyOf 12 = .ok (.iload_n 2, 1) := by decide +kernel
theorem dX6_howManyOf_13 : decode cX6_howManyOf 13 = .ok (.aload_n 0, 1) := by decide +kernel
theorem dX6_howManyOf_14 : decode cX6_howManyOf 14 = .ok (.getfield 18, 3) := by decide +kernel
theorem dX6_howManyOf_17 : decode cX6_howManyOf 17 = .ok (.iload_n 3, 1) := by decide +kernel
theorem dX6_howManyOf_18 : decode cX6_howManyOf 18 = .ok (.iaload, 1) := by decide +kernel
theorem dX6_howManyOf_19 : decode cX6_howManyOf 19 = .ok (.iload_n 1, 1) := by decide +kernel
theorem dX6_howManyOf_20 : decode cX6_howManyOf 20 = .ok (.invokestatic 100, 3) := by decide +kernel
theorem dX6_howManyOf_23 : decode cX6_howManyOf 23 = .ok (.ifCond .eq 7, 3) := by decide +kernel
theorem dX6_howManyOf_26 : decode cX6_howManyOf 26 = .ok (.iconst 1, 1) := by decide +kernel
theorem dX6_howManyOf_27 : decode cX6_howManyOf 27 = .ok (.goto 4, 3) := by decide +kernel
theorem dX6_howManyOf_30 : decode cX6_howManyOf 30 = .ok (.iconst 0, 1) := by decide +kernel
theorem dX6_howManyOf_31 : decode cX6_howManyOf 31 = .ok (.iadd, 1) := by decide +kernel
theorem dX6_howManyOf_32 : decode cX6_howManyOf 32 = .ok (.istore_n 2, 1) := by decide +kernel
theorem dX6_howManyOf_33 : decode cX6_howManyOf 33 = .ok (.iinc 3 1, 3) := by decide +kernel
theorem dX6_howManyOf_36 : decode cX6_howManyOf 36 = .ok (.goto (-32), 3) := by decide +kernel
theorem dX6_howManyOf_39 : decode cX6_howManyOf 39 = .ok (.iload_n 2, 1) := by decide +kernel
theorem dX6_howManyOf_40 : decode cX6_howManyOf 40 = .ok (.ireturn, 1) := by decide +kernel
theorem dX6_comesTo_0 : decode cX6_comesTo 0 = .ok (.getstatic 91, 3) := by decide +kernel
theorem dX6_comesTo_3 : decode cX6_comesTo 3 = .ok (.aload_n 0, 1) := by decide +kernel
theorem dX6_comesTo_4 : decode cX6_comesTo 4 = .ok (.getfield 18, 3) := by decide +kernel
theorem dX6_comesTo_7 : decode cX6_comesTo 7 = .ok (.iload_n 2, 1) := by decide +kernel
theorem dX6_comesTo_8 : decode cX6_comesTo 8 = .ok (.iaload, 1) := by decide +kernel
theorem dX6_comesTo_9 : decode cX6_comesTo 9 = .ok (.iaload, 1) := by decide +kernel
theorem dX6_comesTo_10 : decode cX6_comesTo 10 = .ok (.aload_n 0, 1) := by decide +kernel
theorem dX6_comesTo_11 : decode cX6_comesTo 11 = .ok (.getfield 15, 3) := by decide +kernel
theorem dX6_comesTo_14 : decode cX6_comesTo 14 = .ok (.iload_n 1, 1) := by decide +kernel
theorem dX6_comesTo_15 : decode cX6_comesTo 15 = .ok (.iaload, 1) := by decide +kernel
theorem dX6_comesTo_16 : decode cX6_comesTo 16 = .ok (.aload_n 0, 1) := by decide +kernel
theorem dX6_comesTo_17 : decode cX6_comesTo 17 = .ok (.getfield 15, 3) := by decide +kernel
theorem dX6_comesTo_20 : decode cX6_comesTo 20 = .ok (.aload_n 0, 1) := by decide +kernel
theorem dX6_comesTo_21 : decode cX6_comesTo 21 = .ok (.getfield 21, 3) := by decide +kernel
theorem dX6_comesTo_24 : decode cX6_comesTo 24 = .ok (.iload_n 2, 1) := by decide +kernel
theorem dX6_comesTo_25 : decode cX6_comesTo 25 = .ok (.iaload, 1) := by decide +kernel
theorem dX6_comesTo_26 : decode cX6_comesTo 26 = .ok (.iaload, 1) := by decide +kernel
theorem dX6_comesTo_27 : decode cX6_comesTo 27 = .ok (.isub, 1) := by decide +kernel
theorem dX6_comesTo_28 : decode cX6_comesTo 28 = .ok (.invokestatic 104, 3) := by decide +kernel
theorem dX6_comesTo_31 : decode cX6_comesTo 31 = .ok (.isub, 1) := by decide +kernel
theorem dX6_comesTo_32 : decode cX6_comesTo 32 = .ok (.ireturn, 1) := by decide +kernel
theorem dX6_loudestIn_0 : decode cX6_loudestIn 0 = .ok (.iconst 0, 1) := by decide +kernel
theorem dX6_loudestIn_1 : decode cX6_loudestIn 1 = .ok (.istore 4, 2) := by decide +kernel
theorem dX6_loudestIn_3 : decode cX6_loudestIn 3 = .ok (.iconst 0, 1) := by decide +kernel
theorem dX6_loudestIn_4 : decode cX6_loudestIn 4 = .ok (.istore 5, 2) := by decide +kernel
theorem dX6_loudestIn_6 : decode cX6_loudestIn 6 = .ok (.iload 5, 2) := by decide +kernel
theorem dX6_loudestIn_8 : decode cX6_loudestIn 8 = .ok (.aload_n 0, 1) := by decide +kernel
theorem dX6_loudestIn_9 : decode cX6_loudestIn 9 = .ok (.getfield 44, 3) := by decide +kernel
theorem dX6_loudestIn_12 : decode cX6_loudestIn 12 = .ok (.if_icmp .ge 68, 3) := by decide +kernel
theorem dX6_loudestIn_15 : decode cX6_loudestIn 15 = .ok (.iload_n 2, 1) := by decide +kernel
theorem dX6_loudestIn_16 : decode cX6_loudestIn 16 = .ok (.iload 5, 2) := by decide +kernel
theorem dX6_loudestIn_18 : decode cX6_loudestIn 18 = .ok (.ishr, 1) := by decide +kernel
theorem dX6_loudestIn_19 : decode cX6_loudestIn 19 = .ok (.ifCond .eq 61, 3) := by decide +kernel
theorem dX6_loudestIn_22 : decode cX6_loudestIn 22 = .ok (.iload_n 2, 1) := by decide +kernel
theorem dX6_loudestIn_23 : decode cX6_loudestIn 23 = .ok (.iload 5, 2) := by decide +kernel
theorem dX6_loudestIn_25 : decode cX6_loudestIn 25 = .ok (.ishr, 1) := by decide +kernel
theorem dX6_loudestIn_26 : decode cX6_loudestIn 26 = .ok (.iconst 1, 1) := by decide +kernel
theorem dX6_loudestIn_27 : decode cX6_loudestIn 27 = .ok (.iand, 1) := by decide +kernel
theorem dX6_loudestIn_28 : decode cX6_loudestIn 28 = .ok (.ifCond .eq 46, 3) := by decide +kernel
theorem dX6_loudestIn_31 : decode cX6_loudestIn 31 = .ok (.aload_n 3, 1) := by decide +kernel
theorem dX6_loudestIn_32 : decode cX6_loudestIn 32 = .ok (.aload_n 0, 1) := by decide +kernel
theorem dX6_loudestIn_33 : decode cX6_loudestIn 33 = .ok (.getfield 18, 3) := by decide +kernel
theorem dX6_loudestIn_36 : decode cX6_loudestIn 36 = .ok (.iload 5, 2) := by decide +kernel
theorem dX6_loudestIn_38 : decode cX6_loudestIn 38 = .ok (.iaload, 1) := by decide +kernel
theorem dX6_loudestIn_39 : decode cX6_loudestIn 39 = .ok (.iaload, 1) := by decide +kernel
theorem dX6_loudestIn_40 : decode cX6_loudestIn 40 = .ok (.aload_n 0, 1) := by decide +kernel
theorem dX6_loudestIn_41 : decode cX6_loudestIn 41 = .ok (.getfield 15, 3) := by decide +kernel
theorem dX6_loudestIn_44 : decode cX6_loudestIn 44 = .ok (.iload_n 1, 1) := by decide +kernel
theorem dX6_loudestIn_45 : decode cX6_loudestIn 45 = .ok (.iaload, 1) := by decide +kernel
theorem dX6_loudestIn_46 : decode cX6_loudestIn 46 = .ok (.aload_n 0, 1) := by decide +kernel
theorem dX6_loudestIn_47 : decode cX6_loudestIn 47 = .ok (.getfield 15, 3) := by decide +kernel
theorem dX6_loudestIn_50 : decode cX6_loudestIn 50 = .ok (.aload_n 0, 1) := by decide +kernel
theorem dX6_loudestIn_51 : decode cX6_loudestIn 51 = .ok (.getfield 21, 3) := by decide +kernel
theorem dX6_loudestIn_54 : decode cX6_loudestIn 54 = .ok (.iload 5, 2) := by decide +kernel
theorem dX6_loudestIn_56 : decode cX6_loudestIn 56 = .ok (.iaload, 1) := by decide +kernel
theorem dX6_loudestIn_57 : decode cX6_loudestIn 57 = .ok (.iaload, 1) := by decide +kernel
theorem dX6_loudestIn_58 : decode cX6_loudestIn 58 = .ok (.isub, 1) := by decide +kernel
theorem dX6_loudestIn_59 : decode cX6_loudestIn 59 = .ok (.invokestatic 104, 3) := by decide +kernel
theorem dX6_loudestIn_62 : decode cX6_loudestIn 62 = .ok (.isub, 1) := by decide +kernel
theorem dX6_loudestIn_63 : decode cX6_loudestIn 63 = .ok (.istore 6, 2) := by decide +kernel
theorem dX6_loudestIn_65 : decode cX6_loudestIn 65 = .ok (.iload 4, 2) := by decide +kernel
theorem dX6_loudestIn_67 : decode cX6_loudestIn 67 = .ok (.iload 6, 2) := by decide +kernel
theorem dX6_loudestIn_69 : decode cX6_loudestIn 69 = .ok (.invokestatic 113, 3) := by decide +kernel
theorem dX6_loudestIn_72 : decode cX6_loudestIn 72 = .ok (.istore 4, 2) := by decide +kernel
theorem dX6_loudestIn_74 : decode cX6_loudestIn 74 = .ok (.iinc 5 1, 3) := by decide +kernel
theorem dX6_loudestIn_77 : decode cX6_loudestIn 77 = .ok (.goto (-71), 3) := by decide +kernel
theorem dX6_loudestIn_80 : decode cX6_loudestIn 80 = .ok (.iload 4, 2) := by decide +kernel
theorem dX6_loudestIn_82 : decode cX6_loudestIn 82 = .ok (.ireturn, 1) := by decide +kernel
set_option maxRecDepth 20000 in
theorem ggX6_isHeardBy_X6_comesTo : GoodIn wsX6_isHeardBy wsX6_comesTo := goodIn_r _ [7, 8, 1, 9, 2, 10, 11, 12, 13, 19, 20, 21, 22, 23, 24, 25, 26, 27, 28, 29] (by decide +kernel) (by decide +kernel)
set_option maxRecDepth 20000 in
theorem gX6_isHeardBy_X6_comesTo : GoodIn wsX6_isHeardBy (wsV RX6 117 RX6 yX6_comesTo wsX6_comesTo) := goodIn_app (goodIn_of _ (by decide +kernel)) ggX6_isHeardBy_X6_comesTo
set_option maxRecDepth 20000 in
theorem ggX6_isHeardBy_X2_isEnough : GoodIn wsX6_isHeardBy wsX2_isEnough := goodIn_r _ [17, 18] (by decide +kernel) (by decide +kernel)
set_option maxRecDepth 20000 in
theorem gX6_isHeardBy_X2_isEnough : GoodIn wsX6_isHeardBy (va_wsS RX6 120 yX2_isEnough wsX2_isEnough) := goodIn_app (goodIn_of _ (by decide +kernel)) ggX6_isHeardBy_X2_isEnough
theorem dX6_isHeardBy_0 : decode cX6_isHeardBy 0 = .ok (.aload_n 0, 1) := by decide +kernel
theorem dX6_isHeardBy_1 : decode cX6_isHeardBy 1 = .ok (.getfield 18, 3) := by decide +kernel
theorem dX6_isHeardBy_4 : decode cX6_isHeardBy 4 = .ok (.iload_n 1, 1) := by decide +kernel
theorem dX6_isHeardBy_5 : decode cX6_isHeardBy 5 = .ok (.iaload, 1) := by decide +kernel
theorem dX6_isHeardBy_6 : decode cX6_isHeardBy 6 = .ok (.aload_n 0, 1) := by decide +kernel
theorem dX6_isHeardBy_7 : decode cX6_isHeardBy 7 = .ok (.aload_n 0, 1) := by decide +kernel
theorem dX6_isHeardBy_8 : decode cX6_isHeardBy 8 = .ok (.getfield 21, 3) := by decide +kernel
theorem dX6_isHeardBy_11 : decode cX6_isHeardBy 11 = .ok (.iload_n 1, 1) := by decide +kernel
theorem dX6_isHeardBy_12 : decode cX6_isHeardBy 12 = .ok (.iaload, 1) := by decide +kernel
theorem dX6_isHeardBy_13 : decode cX6_isHeardBy 13 = .ok (.iload_n 2, 1) := by decide +kernel
theorem dX6_isHeardBy_14 : decode cX6_isHeardBy 14 = .ok (.invokevirtual 117, 3) := by decide +kernel
theorem dX6_isHeardBy_17 : decode cX6_isHeardBy 17 = .ok (.iconst 0, 1) := by decide +kernel
theorem dX6_isHeardBy_18 : decode cX6_isHeardBy 18 = .ok (.invokestatic 120, 3) := by decide +kernel
theorem dX6_isHeardBy_21 : decode cX6_isHeardBy 21 = .ok (.ireturn, 1) := by decide +kernel
set_option maxRecDepth 20000 in
theorem ggX6_whoHear_X6_everyone : GoodIn wsX6_whoHear wsX6_everyone := goodIn_r _ [5, 6, 36, 37, 38, 39, 40, 41, 42, 43, 44, 45, 46] (by decide +kernel) (by decide +kernel)
set_option maxRecDepth 20000 in
theorem gX6_whoHear_X6_everyone : GoodIn wsX6_whoHear (wsV RX6 124 RX6 yX6_everyone wsX6_everyone) := goodIn_app (goodIn_of _ (by decide +kernel)) ggX6_whoHear_X6_everyone
set_option maxRecDepth 20000 in
theorem ggX6_whoHear_X6_whoHearOf : GoodIn wsX6_whoHear wsX6_whoHearOf := goodIn_r _ [10, 6, 11, 12, 13, 14, 15, 16, 17, 18, 19, 20, 21, 4, 22, 23, 24, 25, 26, 27, 28, 29, 30, 31, 32, 33, 34, 35, 36, 37, 38, 39, 40, 41, 42, 43, 44, 45, 46] (by decide +kernel) (by decide +kernel)
set_option maxRecDepth 20000 in
theorem gX6_whoHear_X6_whoHearOf : GoodIn wsX6_whoHear (wsV RX6 128 RX6 yX6_whoHearOf wsX6_whoHearOf) := goodIn_app (goodIn_of _ (by decide +kernel)) ggX6_whoHear_X6_whoHearOf
theorem dX6_whoHear_0 : decode cX6_whoHear 0 = .ok (.aload_n 0, 1) := by decide +kernel
theorem dX6_whoHear_1 : decode cX6_whoHear 1 = .ok (.aload_n 0, 1) := by decide +kernel
theorem dX6_whoHear_2 : decode cX6_whoHear 2 = .ok (.invokevirtual 124, 3) := by decide +kernel
theorem dX6_whoHear_5 : decode cX6_whoHear 5 = .ok (.iload_n 1, 1) := by decide +kernel
theorem dX6_whoHear_6 : decode cX6_whoHear 6 = .ok (.iload_n 2, 1) := by decide +kernel
theorem dX6_whoHear_7 : decode cX6_whoHear 7 = .ok (.iconst 0, 1) := by decide +kernel
theorem dX6_whoHear_8 : decode cX6_whoHear 8 = .ok (.invokevirtual 128, 3) := by decide +kernel
theorem dX6_whoHear_11 : decode cX6_whoHear 11 = .ok (.ireturn, 1) := by decide +kernel
set_option maxRecDepth 20000 in
theorem ggX6_whoHearOf_X6_loudestIn : GoodIn wsX6_whoHearOf wsX6_loudestIn := goodIn_r _ [14, 1, 9, 15, 2, 16, 17, 7, 18, 5, 6, 8, 28, 29, 30, 31, 32, 33, 34, 35, 36, 37, 38] (by decide +kernel) (by decide +kernel)
set_option maxRecDepth 20000 in
theorem gX6_whoHearOf_X6_loudestIn : GoodIn wsX6_whoHearOf (wsV RX6 109 RX6 yX6_loudestIn wsX6_loudestIn) := goodIn_app (goodIn_of _ (by decide +kernel)) ggX6_whoHearOf_X6_loudestIn
set_option maxRecDepth 20000 in
theorem ggX6_whoHearOf_X6_comesTo : GoodIn wsX6_whoHearOf wsX6_comesTo := goodIn_r _ [22, 4, 9, 15, 2, 16, 17, 7, 18, 28, 29, 30, 31, 32, 33, 34, 35, 36, 37, 38] (by decide +kernel) (by decide +kernel)
set_option maxRecDepth 20000 in
theorem gX6_whoHearOf_X6_comesTo : GoodIn wsX6_whoHearOf (wsV RX6 117 RX6 yX6_comesTo wsX6_comesTo) := goodIn_app (goodIn_of _ (by decide +kernel)) ggX6_whoHearOf_X6_comesTo
set_option maxRecDepth 20000 in
theorem ggX6_whoHearOf_X2_isEnough : GoodIn wsX6_whoHearOf wsX2_isEnough := goodIn_r _ [26, 27] (by decide +kernel) (by decide +kernel)
set_option maxRecDepth 20000 in
theorem gX6_whoHearOf_X2_isEnough : GoodIn wsX6_whoHearOf (va_wsS RX6 120 yX2_isEnough wsX2_isEnough) := goodIn_app (goodIn_of _ (by decide +kernel)) ggX6_whoHearOf_X2_isEnough
theorem dX6_whoHearOf_0 : decode cX6_whoHearOf 0 = .ok (.iload_n 1, 1) := by decide +kernel
theorem dX6_whoHearOf_1 : decode cX6_whoHearOf 1 = .ok (.iload_n 3, 1) := by decide +kernel
theorem dX6_whoHearOf_2 : decode cX6_whoHearOf 2 = .ok (.iconst (-1), 1) := by decide +kernel
theorem dX6_whoHearOf_3 : decode cX6_whoHearOf 3 = .ok (.ixor, 1) := by decide +kernel
theorem dX6_whoHearOf_4 : decode cX6_whoHearOf 4 = .ok (.iand, 1) := by decide +kernel
theorem dX6_whoHearOf_5 : decode cX6_whoHearOf 5 = .ok (.iconst 1, 1) := by decide +kernel
theorem dX6_whoHearOf_6 : decode cX6_whoHearOf 6 = .ok (.iload_n 2, 1) := by decide +kernel
theorem dX6_whoHearOf_7 : decode cX6_whoHearOf 7 = .ok (.ishl, 1) := by decide +kernel
theorem dX6_whoHearOf_8 : decode cX6_whoHearOf 8 = .ok (.iconst (-1), 1) := by decide +kernel
theorem dX6_whoHearOf_9 : decode cX6_whoHearOf 9 = .ok (.ixor, 1) := by decide +kernel
theorem dX6_whoHearOf_10 : decode cX6_whoHearOf 10 = .ok (.iand, 1) := by decide +kernel
theorem dX6_whoHearOf_11 : decode cX6_whoHearOf 11 = .ok (.istore 5, 2) := by decide +kernel
theorem dX6_whoHearOf_13 : decode cX6_whoHearOf 13 = .ok (.iconst 0, 1) := by decide +kernel
theorem dX6_whoHearOf_14 : decode cX6_whoHearOf 14 = .ok (.istore 6, 2) := by decide +kernel
theorem dX6_whoHearOf_16 : decode cX6_whoHearOf 16 = .ok (.iconst 0, 1) := by decide +kernel
theorem dX6_whoHearOf_17 : decode cX6_whoHearOf 17 = .ok (.istore 7, 2) := by decide +kernel
theorem dX6_whoHearOf_19 : decode cX6_whoHearOf 19 = .ok (.iload 7, 2) := by decide +kernel
theorem dX6_whoHearOf_21 : decode cX6_whoHearOf 21 = .ok (.aload_n 0, 1) := by decide +kernel
theorem dX6_whoHearOf_22 : decode cX6_whoHearOf 22 = .ok (.getfield 44, 3) := by decide +kernel
theorem dX6_whoHearOf_25 : decode cX6_whoHearOf 25 = .ok (.if_icmp .ge 103, 3) := by decide +kernel
theorem dX6_whoHearOf_28 : decode cX6_whoHearOf 28 = .ok (.iload 5, 2) := by decide +kernel
theorem dX6_whoHearOf_30 : decode cX6_whoHearOf 30 = .ok (.iload 7, 2) := by decide +kernel
theorem dX6_whoHearOf_32 : decode cX6_whoHearOf 32 = .ok (.ishr, 1) := by decide +kernel
theorem dX6_whoHearOf_33 : decode cX6_whoHearOf 33 = .ok (.ifCond .eq 95, 3) := by decide +kernel
theorem dX6_whoHearOf_36 : decode cX6_whoHearOf 36 = .ok (.iload 5, 2) := by decide +kernel
theorem dX6_whoHearOf_38 : decode cX6_whoHearOf 38 = .ok (.iload 7, 2) := by decide +kernel
theorem dX6_whoHearOf_40 : decode cX6_whoHearOf 40 = .ok (.ishr, 1) := by decide +kernel
theorem dX6_whoHearOf_41 : decode cX6_whoHearOf 41 = .ok (.iconst 1, 1) := by decide +kernel
theorem dX6_whoHearOf_42 : decode cX6_whoHearOf 42 = .ok (.iand, 1) := by decide +kernel
theorem dX6_whoHearOf_43 : decode cX6_whoHearOf 43 = .ok (.ifCond .eq 79, 3) := by decide +kernel
theorem dX6_whoHearOf_46 : decode cX6_whoHearOf 46 = .ok (.aload_n 0, 1) := by decide +kernel
theorem dX6_whoHearOf_47 : decode cX6_whoHearOf 47 = .ok (.aload_n 0, 1) := by decide +kernel
theorem dX6_whoHearOf_48 : decode cX6_whoHearOf 48 = .ok (.getfield 21, 3) := by decide +kernel
theorem dX6_whoHearOf_51 : decode cX6_whoHearOf 51 = .ok (.iload 7, 2) := by decide +kernel
theorem dX6_whoHearOf_53 : decode cX6_whoHearOf 53 = .ok (.iaload, 1) := by decide +kernel
theorem dX6_whoHearOf_54 : decode cX6_whoHearOf 54 = .ok (.iload_n 3, 1) := by decide +kernel
theorem dX6_whoHearOf_55 : decode cX6_whoHearOf 55 = .ok (.getstatic 94, 3) := by decide +kernel
theorem dX6_whoHearOf_58 : decode cX6_whoHearOf 58 = .ok (.invokevirtual 109, 3) := by decide +kernel
theorem dX6_whoHearOf_61 : decode cX6_whoHearOf 61 = .ok (.istore 8, 2) := by decide +kernel
theorem dX6_whoHearOf_63 : decode cX6_whoHearOf 63 = .ok (.iload 8, 2) := by decide +kernel
theorem dX6_whoHearOf_65 : decode cX6_whoHearOf 65 = .ok (.aload_n 0, 1) := by decide +kernel
theorem dX6_whoHearOf_66 : decode cX6_whoHearOf 66 = .ok (.aload_n 0, 1) := by decide +kernel
theorem dX6_whoHearOf_67 : decode cX6_whoHearOf 67 = .ok (.getfield 21, 3) := by decide +kernel
theorem dX6_whoHearOf_70 : decode cX6_whoHearOf 70 = .ok (.iload 7, 2) := by decide +kernel
theorem dX6_whoHearOf_72 : decode cX6_whoHearOf 72 = .ok (.iaload, 1) := by decide +kernel
theorem dX6_whoHearOf_73 : decode cX6_whoHearOf 73 = .ok (.iload 4, 2) := by decide +kernel
theorem dX6_whoHearOf_75 : decode cX6_whoHearOf 75 = .ok (.getstatic 91, 3) := by decide +kernel
theorem dX6_whoHearOf_78 : decode cX6_whoHearOf 78 = .ok (.invokevirtual 109, 3) := by decide +kernel
theorem dX6_whoHearOf_81 : decode cX6_whoHearOf 81 = .ok (.invokestatic 113, 3) := by decide +kernel
theorem dX6_whoHearOf_84 : decode cX6_whoHearOf 84 = .ok (.istore 9, 2) := by decide +kernel
theorem dX6_whoHearOf_86 : decode cX6_whoHearOf 86 = .ok (.aload_n 0, 1) := by decide +kernel
theorem dX6_whoHearOf_87 : decode cX6_whoHearOf 87 = .ok (.getfield 18, 3) := by decide +kernel
theorem dX6_whoHearOf_90 : decode cX6_whoHearOf 90 = .ok (.iload 7, 2) := by decide +kernel
theorem dX6_whoHearOf_92 : decode cX6_whoHearOf 92 = .ok (.iaload, 1) := by decide +kernel
theorem dX6_whoHearOf_93 : decode cX6_whoHearOf 93 = .ok (.aload_n 0, 1) := by decide +kernel
theorem dX6_whoHearOf_94 : decode cX6_whoHearOf 94 = .ok (.aload_n 0, 1) := by decide +kernel
theorem dX6_whoHearOf_95 : decode cX6_whoHearOf 95 = .ok (.getfield 21, 3) := by decide +kernel
theorem dX6_whoHearOf_98 : decode cX6_whoHearOf 98 = .ok (.iload 7, 2) := by decide +kernel
theorem dX6_whoHearOf_100 : decode cX6_whoHearOf 100 = .ok (.iaload, 1) := by decide +kernel
theorem dX6_whoHearOf_101 : decode cX6_whoHearOf 101 = .ok (.iload_n 2, 1) := by decide +kernel
theorem dX6_whoHearOf_102 : decode cX6_whoHearOf 102 = .ok (.invokevirtual 117, 3) := by decide +kernel
theorem dX6_whoHearOf_105 : decode cX6_whoHearOf 105 = .ok (.iload 9, 2) := by decide +kernel
theorem dX6_whoHearOf_107 : decode cX6_whoHearOf 107 = .ok (.invokestatic 120, 3) := by decide +kernel
theorem dX6_whoHearOf_110 : decode cX6_whoHearOf 110 = .ok (.ifCond .eq 12, 3) := by decide +kernel
theorem dX6_whoHearOf_113 : decode cX6_whoHearOf 113 = .ok (.iload 6, 2) := by decide +kernel
theorem dX6_whoHearOf_115 : decode cX6_whoHearOf 115 = .ok (.iconst 1, 1) := by decide +kernel
theorem dX6_whoHearOf_116 : decode cX6_whoHearOf 116 = .ok (.iload 7, 2) := by decide +kernel
theorem dX6_whoHearOf_118 : decode cX6_whoHearOf 118 = .ok (.ishl, 1) := by decide +kernel
theorem dX6_whoHearOf_119 : decode cX6_whoHearOf 119 = .ok (.ior, 1) := by decide +kernel
theorem dX6_whoHearOf_120 : decode cX6_whoHearOf 120 = .ok (.istore 6, 2) := by decide +kernel
theorem dX6_whoHearOf_122 : decode cX6_whoHearOf 122 = .ok (.iinc 7 1, 3) := by decide +kernel
theorem dX6_whoHearOf_125 : decode cX6_whoHearOf 125 = .ok (.goto (-106), 3) := by decide +kernel
theorem dX6_whoHearOf_128 : decode cX6_whoHearOf 128 = .ok (.iload 6, 2) := by decide +kernel
theorem dX6_whoHearOf_130 : decode cX6_whoHearOf 130 = .ok (.ireturn, 1) := by decide +kernel
set_option maxRecDepth 20000 in
theorem ggX6_circleOf_X6_whoHear : GoodIn wsX6_circleOf wsX6_whoHear := goodIn_r _ [5, 6, 7, 8, 4, 9, 10, 11, 12, 13, 14, 15, 16, 17, 18, 19, 20, 21, 22, 23, 24, 25, 26, 27, 28, 29, 30, 31, 32, 33, 34, 35, 36, 37, 38, 39, 40, 41, 42, 43, 44, 45, 46, 47, 48, 49, 50] (by decide +kernel) (by decide +kernel)
set_option maxRecDepth 20000 in
theorem gX6_circleOf_X6_whoHear : GoodIn wsX6_circleOf (wsV RX6 132 RX6 yX6_whoHear wsX6_whoHear) := goodIn_app (goodIn_of _ (by decide +kernel)) ggX6_circleOf_X6_whoHear
theorem dX6_circleOf_0 : decode cX6_circleOf 0 = .ok (.aload_n 0, 1) := by decide +kernel
theorem dX6_circleOf_1 : decode cX6_circleOf 1 = .ok (.iload_n 1, 1) := by decide +kernel
theorem dX6_circleOf_2 : decode cX6_circleOf 2 = .ok (.iconst 0, 1) := by decide +kernel
theorem dX6_circleOf_3 : decode cX6_circleOf 3 = .ok (.invokevirtual 132, 3) := by decide +kernel
theorem dX6_circleOf_6 : decode cX6_circleOf 6 = .ok (.iconst 1, 1) := by decide +kernel
theorem dX6_circleOf_7 : decode cX6_circleOf 7 = .ok (.iload_n 1, 1) := by decide +kernel
theorem dX6_circleOf_8 : decode cX6_circleOf 8 = .ok (.ishl, 1) := by decide +kernel
theorem dX6_circleOf_9 : decode cX6_circleOf 9 = .ok (.ior, 1) := by decide +kernel
theorem dX6_circleOf_10 : decode cX6_circleOf 10 = .ok (.ireturn, 1) := by decide +kernel
set_option maxRecDepth 20000 in
theorem ggX6_heardPairs_X6_whoHear : GoodIn wsX6_heardPairs wsX6_whoHear := goodIn_r _ [6, 7, 8, 9, 5, 10, 1, 11, 12, 13, 14, 15, 16, 17, 18, 19, 20, 21, 22, 23, 24, 25, 26, 27, 28, 29, 30, 31, 32, 33, 34, 35, 36, 37, 38, 39, 47, 48, 49, 50, 51, 52, 53, 54, 55, 56, 57] (by decide +kernel) (by decide +kernel)
set_option maxRecDepth 20000 in
theorem gX6_heardPairs_X6_whoHear : GoodIn wsX6_heardPairs (wsV RX6 132 RX6 yX6_whoHear wsX6_whoHear) := goodIn_app (goodIn_of _ (by decide +kernel)) ggX6_heardPairs_X6_whoHear
set_option maxRecDepth 20000 in
theorem ggX6_heardPairs_J6_bitCount_0f7a4 : GoodIn wsX6_heardPairs wsJ6_bitCount_0f7a4 := goodIn_r _ [43, 44, 45, 46] (by decide +kernel) (by decide +kernel)
set_option maxRecDepth 20000 in
theorem gX6_heardPairs_J6_bitCount_0f7a4 : GoodIn wsX6_heardPairs (va_wsS RX6 135 yJ6_bitCount_0f7a4 wsJ6_bitCount_0f7a4) := goodIn_app (goodIn_of _ (by decide +kernel)) ggX6_heardPairs_J6_bitCount_0f7a4
theorem dX6_heardPairs_0 : decode cX6_heardPairs 0 = .ok (.iconst 0, 1) := by decide +kernel
theorem dX6_heardPairs_1 : decode cX6_heardPairs 1 = .ok (.istore_n 1, 1) := by decide +kernel
theorem dX6_heardPairs_2 : decode cX6_heardPairs 2 = .ok (.iconst 0, 1) := by decide +kernel
theorem dX6_heardPairs_3 : decode cX6_heardPairs 3 = .ok (.istore_n 2, 1) := by decide +kernel
theorem dX6_heardPairs_4 : decode cX6_heardPairs 4 = .ok (.iload_n 2, 1) := by decide +kernel
theorem dX6_heardPairs_5 : decode cX6_heardPairs 5 = .ok (.aload_n 0, 1) := by decide +kernel
theorem dX6_heardPairs_6 : decode cX6_heardPairs 6 = .ok (.getfield 44, 3) := by decide +kernel
theorem dX6_heardPairs_9 : decode cX6_heardPairs 9 = .ok (.if_icmp .ge 21, 3) := by decide +kernel
theorem dX6_heardPairs_12 : decode cX6_heardPairs 12 = .ok (.iload_n 1, 1) := by decide +kernel
theorem dX6_heardPairs_13 : decode cX6_heardPairs 13 = .ok (.aload_n 0, 1) := by decide +kernel
theorem dX6_heardPairs_14 : decode cX6_heardPairs 14 = .ok (.iload_n 2, 1) := by decide +kernel
theorem dX6_heardPairs_15 : decode cX6_heardPairs 15 = .ok (.iconst 0, 1) := by decide +kernel
theorem dX6_heardPairs_16 : decode cX6_heardPairs 16 = .ok (.invokevirtual 132, 3) := by decide +kernel
theorem dX6_heardPairs_19 : decode cX6_heardPairs 19 = .ok (.invokestatic 135, 3) := by decide +kernel
theorem dX6_heardPairs_22 : decode cX6_heardPairs 22 = .ok (.iadd, 1) := by decide +kernel
theorem dX6_heardPairs_23 : decode cX6_heardPairs 23 = .ok (.istore_n 1, 1) := by decide +kernel
theorem dX6_heardPairs_24 : decode cX6_heardPairs 24 = .ok (.iinc 2 1, 3) := by decide +kernel
theorem dX6_heardPairs_27 : decode cX6_heardPairs 27 = .ok (.goto (-23), 3) := by decide +kernel
theorem dX6_heardPairs_30 : decode cX6_heardPairs 30 = .ok (.iload_n 1, 1) := by decide +kernel
theorem dX6_heardPairs_31 : decode cX6_heardPairs 31 = .ok (.ireturn, 1) := by decide +kernel
theorem dX6_pairs_0 : decode cX6_pairs 0 = .ok (.aload_n 0, 1) := by decide +kernel
theorem dX6_pairs_1 : decode cX6_pairs 1 = .ok (.getfield 44, 3) := by decide +kernel
theorem dX6_pairs_4 : decode cX6_pairs 4 = .ok (.iconst 0, 1) := by decide +kernel
theorem dX6_pairs_5 : decode cX6_pairs 5 = .ok (.aload_n 0, 1) := by decide +kernel
theorem dX6_pairs_6 : decode cX6_pairs 6 = .ok (.getfield 44, 3) := by decide +kernel
theorem dX6_pairs_9 : decode cX6_pairs 9 = .ok (.iconst 1, 1) := by decide +kernel
theorem dX6_pairs_10 : decode cX6_pairs 10 = .ok (.isub, 1) := by decide +kernel
theorem dX6_pairs_11 : decode cX6_pairs 11 = .ok (.invokestatic 113, 3) := by decide +kernel
theorem dX6_pairs_14 : decode cX6_pairs 14 = .ok (.imul, 1) := by decide +kernel
theorem dX6_pairs_15 : decode cX6_pairs 15 = .ok (.ireturn, 1) := by decide +kernel
theorem dX6_addTalk_0 : decode cX6_addTalk 0 = .ok (.aload_n 0, 1) := by decide +kernel
theorem dX6_addTalk_1 : decode cX6_addTalk 1 = .ok (.getfield 24, 3) := by decide +kernel
theorem dX6_addTalk_4 : decode cX6_addTalk 4 = .ok (.aload_n 0, 1) := by decide +kernel
theorem dX6_addTalk_5 : decode cX6_addTalk 5 = .ok (.getfield 47, 3) := by decide +kernel
theorem dX6_addTalk_8 : decode cX6_addTalk 8 = .ok (.iload_n 1, 1) := by decide +kernel
theorem dX6_addTalk_9 : decode cX6_addTalk 9 = .ok (.iastore, 1) := by decide +kernel
theorem dX6_addTalk_10 : decode cX6_addTalk 10 = .ok (.aload_n 0, 1) := by decide +kernel
theorem dX6_addTalk_11 : decode cX6_addTalk 11 = .ok (.getfield 27, 3) := by decide +kernel
theorem dX6_addTalk_14 : decode cX6_addTalk 14 = .ok (.aload_n 0, 1) := by decide +kernel
theorem dX6_addTalk_15 : decode cX6_addTalk 15 = .ok (.getfield 47, 3) := by decide +kernel
theorem dX6_addTalk_18 : decode cX6_addTalk 18 = .ok (.iload_n 2, 1) := by decide +kernel
theorem dX6_addTalk_19 : decode cX6_addTalk 19 = .ok (.iastore, 1) := by decide +kernel
theorem dX6_addTalk_20 : decode cX6_addTalk 20 = .ok (.aload_n 0, 1) := by decide +kernel
theorem dX6_addTalk_21 : decode cX6_addTalk 21 = .ok (.getfield 30, 3) := by decide +kernel
theorem dX6_addTalk_24 : decode cX6_addTalk 24 = .ok (.aload_n 0, 1) := by decide +kernel
theorem dX6_addTalk_25 : decode cX6_addTalk 25 = .ok (.getfield 47, 3) := by decide +kernel
theorem dX6_addTalk_28 : decode cX6_addTalk 28 = .ok (.iload_n 3, 1) := by decide +kernel
theorem dX6_addTalk_29 : decode cX6_addTalk 29 = .ok (.iastore, 1) := by decide +kernel
theorem dX6_addTalk_30 : decode cX6_addTalk 30 = .ok (.aload_n 0, 1) := by decide +kernel
theorem dX6_addTalk_31 : decode cX6_addTalk 31 = .ok (.dup, 1) := by decide +kernel
theorem dX6_addTalk_32 : decode cX6_addTalk 32 = .ok (.getfield 47, 3) := by decide +kernel
theorem dX6_addTalk_35 : decode cX6_addTalk 35 = .ok (.iconst 1, 1) := by decide +kernel
theorem dX6_addTalk_36 : decode cX6_addTalk 36 = .ok (.iadd, 1) := by decide +kernel
theorem dX6_addTalk_37 : decode cX6_addTalk 37 = .ok (.putfield 47, 3) := by decide +kernel
theorem dX6_addTalk_40 : decode cX6_addTalk 40 = .ok (.aload_n 0, 1) := by decide +kernel
theorem dX6_addTalk_41 : decode cX6_addTalk 41 = .ok (.getfield 47, 3) := by decide +kernel
theorem dX6_addTalk_44 : decode cX6_addTalk 44 = .ok (.iconst 1, 1) := by decide +kernel
theorem dX6_addTalk_45 : decode cX6_addTalk 45 = .ok (.isub, 1) := by decide +kernel
theorem dX6_addTalk_46 : decode cX6_addTalk 46 = .ok (.ireturn, 1) := by decide +kernel
theorem dX6_bothOf_0 : decode cX6_bothOf 0 = .ok (.iconst 1, 1) := by decide +kernel
theorem dX6_bothOf_1 : decode cX6_bothOf 1 = .ok (.aload_n 0, 1) := by decide +kernel
theorem dX6_bothOf_2 : decode cX6_bothOf 2 = .ok (.getfield 24, 3) := by decide +kernel
theorem dX6_bothOf_5 : decode cX6_bothOf 5 = .ok (.iload_n 1, 1) := by decide +kernel
theorem dX6_bothOf_6 : decode cX6_bothOf 6 = .ok (.iaload, 1) := by decide +kernel
theorem dX6_bothOf_7 : decode cX6_bothOf 7 = .ok (.ishl, 1) := by decide +kernel
theorem dX6_bothOf_8 : decode cX6_bothOf 8 = .ok (.iconst 1, 1) := by decide +kernel
theorem dX6_bothOf_9 : decode cX6_bothOf 9 = .ok (.aload_n 0, 1) := by decide +kernel
theorem dX6_bothOf_10 : decode cX6_bothOf 10 = .ok (.getfield 27, 3) := by decide +kernel
theorem dX6_bothOf_13 : decode cX6_bothOf 13 = .ok (.iload_n 1, 1) := by decide +kernel
theorem dX6_bothOf_14 : decode cX6_bothOf 14 = .ok (.iaload, 1) := by decide +kernel
theorem dX6_bothOf_15 : decode cX6_bothOf 15 = .ok (.ishl, 1) := by decide +kernel
theorem dX6_bothOf_16 : decode cX6_bothOf 16 = .ok (.ior, 1) := by decide +kernel
theorem dX6_bothOf_17 : decode cX6_bothOf 17 = .ok (.ireturn, 1) := by decide +kernel
set_option maxRecDepth 20000 in
theorem ggX6_isSafe_X6_bothOf : GoodIn wsX6_isSafe wsX6_bothOf := goodIn_r _ [5, 6, 7, 47, 48, 49, 50, 51, 52, 53, 54, 55, 56, 57] (by decide +kernel) (by decide +kernel)
