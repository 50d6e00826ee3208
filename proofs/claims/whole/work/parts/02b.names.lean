theorem dX1_rowOf_1 : decode cX1_rowOf 1 = .ok (.istore_n 2, 1) := by decide +kernel
theorem dX1_rowOf_2 : decode cX1_rowOf 2 = .ok (.iload_n 2, 1) := by decide +kernel
theorem dX1_rowOf_3 : decode cX1_rowOf 3 = .ok (.bipush 27, 2) := by decide +kernel
theorem dX1_rowOf_5 : decode cX1_rowOf 5 = .ok (.if_icmp .ge 47, 3) := by decide +kernel
theorem dX1_rowOf_8 : decode cX1_rowOf 8 = .ok (.iload_n 2, 1) := by decide +kernel
theorem dX1_rowOf_9 : decode cX1_rowOf 9 = .ok (.iconst 0, 1) := by decide +kernel
theorem dX1_rowOf_10 : decode cX1_rowOf 10 = .ok (.invokestatic 117, 3) := by decide +kernel
theorem dX1_rowOf_13 : decode cX1_rowOf 13 = .ok (.iload_n 0, 1) := by decide +kernel
theorem dX1_rowOf_14 : decode cX1_rowOf 14 = .ok (.i2l, 1) := by decide +kernel
theorem dX1_rowOf_15 : decode cX1_rowOf 15 = .ok (.lcmp, 1) := by decide +kernel
theorem dX1_rowOf_16 : decode cX1_rowOf 16 = .ok (.ifCond .ne 30, 3) := by decide +kernel
theorem dX1_rowOf_19 : decode cX1_rowOf 19 = .ok (.iload_n 2, 1) := by decide +kernel
theorem dX1_rowOf_20 : decode cX1_rowOf 20 = .ok (.iconst 1, 1) := by decide +kernel
theorem dX1_rowOf_21 : decode cX1_rowOf 21 = .ok (.invokestatic 117, 3) := by decide +kernel
theorem dX1_rowOf_24 : decode cX1_rowOf 24 = .ok (.lstore_n 3, 1) := by decide +kernel
theorem dX1_rowOf_25 : decode cX1_rowOf 25 = .ok (.lload_n 3, 1) := by decide +kernel
theorem dX1_rowOf_26 : decode cX1_rowOf 26 = .ok (.ldc2_w 45, 3) := by decide +kernel
theorem dX1_rowOf_29 : decode cX1_rowOf 29 = .ok (.lcmp, 1) := by decide +kernel
theorem dX1_rowOf_30 : decode cX1_rowOf 30 = .ok (.ifCond .eq 10, 3) := by decide +kernel
theorem dX1_rowOf_33 : decode cX1_rowOf 33 = .ok (.lload_n 3, 1) := by decide +kernel
theorem dX1_rowOf_34 : decode cX1_rowOf 34 = .ok (.iload_n 1, 1) := by decide +kernel
theorem dX1_rowOf_35 : decode cX1_rowOf 35 = .ok (.i2l, 1) := by decide +kernel
theorem dX1_rowOf_36 : decode cX1_rowOf 36 = .ok (.lcmp, 1) := by decide +kernel
theorem dX1_rowOf_37 : decode cX1_rowOf 37 = .ok (.ifCond .ne 7, 3) := by decide +kernel
theorem dX1_rowOf_40 : decode cX1_rowOf 40 = .ok (.iload_n 2, 1) := by decide +kernel
theorem dX1_rowOf_41 : decode cX1_rowOf 41 = .ok (.goto 4, 3) := by decide +kernel
theorem dX1_rowOf_44 : decode cX1_rowOf 44 = .ok (.iconst (-1), 1) := by decide +kernel
theorem dX1_rowOf_45 : decode cX1_rowOf 45 = .ok (.ireturn, 1) := by decide +kernel
theorem dX1_rowOf_46 : decode cX1_rowOf 46 = .ok (.iinc 2 1, 3) := by decide +kernel
theorem dX1_rowOf_49 : decode cX1_rowOf 49 = .ok (.goto (-47), 3) := by decide +kernel
theorem dX1_rowOf_52 : decode cX1_rowOf 52 = .ok (.iconst (-1), 1) := by decide +kernel
theorem dX1_rowOf_53 : decode cX1_rowOf 53 = .ok (.ireturn, 1) := by decide +kernel
set_option maxRecDepth 20000 in
theorem ggX1_lacksSome_X1_column : GoodIn wsX1_lacksSome wsX1_column := goodIn_r _ [5, 6, 7] (by decide +kernel) (by decide +kernel)
set_option maxRecDepth 20000 in
theorem gX1_lacksSome_X1_column : GoodIn wsX1_lacksSome (va_wsS RX1 117 yX1_column wsX1_column) := goodIn_app (goodIn_of _ (by decide +kernel)) ggX1_lacksSome_X1_column
theorem dX1_lacksSome_0 : decode cX1_lacksSome 0 = .ok (.iconst 0, 1) := by decide +kernel
theorem dX1_lacksSome_1 : decode cX1_lacksSome 1 = .ok (.istore_n 2, 1) := by decide +kernel
theorem dX1_lacksSome_2 : decode cX1_lacksSome 2 = .ok (.iload_n 2, 1) := by decide +kernel
theorem dX1_lacksSome_3 : decode cX1_lacksSome 3 = .ok (.bipush 27, 2) := by decide +kernel
theorem dX1_lacksSome_5 : decode cX1_lacksSome 5 = .ok (.if_icmp .ge 52, 3) := by decide +kernel
theorem dX1_lacksSome_8 : decode cX1_lacksSome 8 = .ok (.iload_n 2, 1) := by decide +kernel
theorem dX1_lacksSome_9 : decode cX1_lacksSome 9 = .ok (.iconst 1, 1) := by decide +kernel
theorem dX1_lacksSome_10 : decode cX1_lacksSome 10 = .ok (.invokestatic 117, 3) := by decide +kernel
theorem dX1_lacksSome_13 : decode cX1_lacksSome 13 = .ok (.iload_n 0, 1) := by decide +kernel
theorem dX1_lacksSome_14 : decode cX1_lacksSome 14 = .ok (.i2l, 1) := by decide +kernel
theorem dX1_lacksSome_15 : decode cX1_lacksSome 15 = .ok (.lcmp, 1) := by decide +kernel
theorem dX1_lacksSome_16 : decode cX1_lacksSome 16 = .ok (.ifCond .ne 19, 3) := by decide +kernel
theorem dX1_lacksSome_19 : decode cX1_lacksSome 19 = .ok (.iload_n 2, 1) := by decide +kernel
theorem dX1_lacksSome_20 : decode cX1_lacksSome 20 = .ok (.iconst 2, 1) := by decide +kernel
theorem dX1_lacksSome_21 : decode cX1_lacksSome 21 = .ok (.invokestatic 117, 3) := by decide +kernel
theorem dX1_lacksSome_24 : decode cX1_lacksSome 24 = .ok (.ldc2_w 134, 3) := by decide +kernel
theorem dX1_lacksSome_27 : decode cX1_lacksSome 27 = .ok (.lcmp, 1) := by decide +kernel
theorem dX1_lacksSome_28 : decode cX1_lacksSome 28 = .ok (.ifCond .ne 7, 3) := by decide +kernel
theorem dX1_lacksSome_31 : decode cX1_lacksSome 31 = .ok (.iconst 1, 1) := by decide +kernel
theorem dX1_lacksSome_32 : decode cX1_lacksSome 32 = .ok (.goto 4, 3) := by decide +kernel
theorem dX1_lacksSome_35 : decode cX1_lacksSome 35 = .ok (.iconst 0, 1) := by decide +kernel
theorem dX1_lacksSome_36 : decode cX1_lacksSome 36 = .ok (.istore_n 3, 1) := by decide +kernel
theorem dX1_lacksSome_37 : decode cX1_lacksSome 37 = .ok (.iload_n 3, 1) := by decide +kernel
theorem dX1_lacksSome_38 : decode cX1_lacksSome 38 = .ok (.ifCond .eq 13, 3) := by decide +kernel
theorem dX1_lacksSome_41 : decode cX1_lacksSome 41 = .ok (.iload_n 1, 1) := by decide +kernel
theorem dX1_lacksSome_42 : decode cX1_lacksSome 42 = .ok (.iload_n 2, 1) := by decide +kernel
theorem dX1_lacksSome_43 : decode cX1_lacksSome 43 = .ok (.ishr, 1) := by decide +kernel
theorem dX1_lacksSome_44 : decode cX1_lacksSome 44 = .ok (.iconst 1, 1) := by decide +kernel
theorem dX1_lacksSome_45 : decode cX1_lacksSome 45 = .ok (.iand, 1) := by decide +kernel
theorem dX1_lacksSome_46 : decode cX1_lacksSome 46 = .ok (.ifCond .ne 5, 3) := by decide +kernel
theorem dX1_lacksSome_49 : decode cX1_lacksSome 49 = .ok (.iconst 1, 1) := by decide +kernel
theorem dX1_lacksSome_50 : decode cX1_lacksSome 50 = .ok (.ireturn, 1) := by decide +kernel
theorem dX1_lacksSome_51 : decode cX1_lacksSome 51 = .ok (.iinc 2 1, 3) := by decide +kernel
theorem dX1_lacksSome_54 : decode cX1_lacksSome 54 = .ok (.goto (-52), 3) := by decide +kernel
theorem dX1_lacksSome_57 : decode cX1_lacksSome 57 = .ok (.iconst 0, 1) := by decide +kernel
theorem dX1_lacksSome_58 : decode cX1_lacksSome 58 = .ok (.ireturn, 1) := by decide +kernel
set_option maxRecDepth 20000 in
theorem ggX1_mayStand_X1_isSeen : GoodIn wsX1_mayStand wsX1_isSeen := goodIn_r _ [8, 9, 10, 7, 11, 12, 13, 14, 15, 16] (by decide +kernel) (by decide +kernel)
set_option maxRecDepth 20000 in
theorem gX1_mayStand_X1_isSeen : GoodIn wsX1_mayStand (va_wsS RX1 137 yX1_isSeen wsX1_isSeen) := goodIn_app (goodIn_of _ (by decide +kernel)) ggX1_mayStand_X1_isSeen
theorem dX1_mayStand_0 : decode cX1_mayStand 0 = .ok (.iload_n 0, 1) := by decide +kernel
theorem dX1_mayStand_1 : decode cX1_mayStand 1 = .ok (.lookupswitch 119 #[(357149030, 93), (374648427, 93), (408125543, 67), (440786851, 51), (524531317, 110)], 51) := by decide +kernel
theorem dX1_mayStand_52 : decode cX1_mayStand 52 = .ok (.ldc 136, 2) := by decide +kernel
theorem dX1_mayStand_54 : decode cX1_mayStand 54 = .ok (.iconst 0, 1) := by decide +kernel
theorem dX1_mayStand_55 : decode cX1_mayStand 55 = .ok (.iload_n 1, 1) := by decide +kernel
theorem dX1_mayStand_56 : decode cX1_mayStand 56 = .ok (.invokestatic 137, 3) := by decide +kernel
theorem dX1_mayStand_59 : decode cX1_mayStand 59 = .ok (.ifCond .ne 7, 3) := by decide +kernel
theorem dX1_mayStand_62 : decode cX1_mayStand 62 = .ok (.iconst 1, 1) := by decide +kernel
theorem dX1_mayStand_63 : decode cX1_mayStand 63 = .ok (.goto 4, 3) := by decide +kernel
theorem dX1_mayStand_66 : decode cX1_mayStand 66 = .ok (.iconst 0, 1) := by decide +kernel
theorem dX1_mayStand_67 : decode cX1_mayStand 67 = .ok (.ireturn, 1) := by decide +kernel
theorem dX1_mayStand_68 : decode cX1_mayStand 68 = .ok (.ldc 141, 2) := by decide +kernel
theorem dX1_mayStand_70 : decode cX1_mayStand 70 = .ok (.iconst 0, 1) := by decide +kernel
theorem dX1_mayStand_71 : decode cX1_mayStand 71 = .ok (.iload_n 1, 1) := by decide +kernel
theorem dX1_mayStand_72 : decode cX1_mayStand 72 = .ok (.invokestatic 137, 3) := by decide +kernel
theorem dX1_mayStand_75 : decode cX1_mayStand 75 = .ok (.ifCond .eq 17, 3) := by decide +kernel
theorem dX1_mayStand_78 : decode cX1_mayStand 78 = .ok (.ldc 136, 2) := by decide +kernel
theorem dX1_mayStand_80 : decode cX1_mayStand 80 = .ok (.iconst 0, 1) := by decide +kernel
theorem dX1_mayStand_81 : decode cX1_mayStand 81 = .ok (.iload_n 1, 1) := by decide +kernel
theorem dX1_mayStand_82 : decode cX1_mayStand 82 = .ok (.invokestatic 137, 3) := by decide +kernel
theorem dX1_mayStand_85 : decode cX1_mayStand 85 = .ok (.ifCond .ne 7, 3) := by decide +kernel
theorem dX1_mayStand_88 : decode cX1_mayStand 88 = .ok (.iconst 1, 1) := by decide +kernel
theorem dX1_mayStand_89 : decode cX1_mayStand 89 = .ok (.goto 4, 3) := by decide +kernel
theorem dX1_mayStand_92 : decode cX1_mayStand 92 = .ok (.iconst 0, 1) := by decide +kernel
theorem dX1_mayStand_93 : decode cX1_mayStand 93 = .ok (.ireturn, 1) := by decide +kernel
theorem dX1_mayStand_94 : decode cX1_mayStand 94 = .ok (.ldc 88, 2) := by decide +kernel
theorem dX1_mayStand_96 : decode cX1_mayStand 96 = .ok (.ldc 136, 2) := by decide +kernel
theorem dX1_mayStand_98 : decode cX1_mayStand 98 = .ok (.iload_n 1, 1) := by decide +kernel
theorem dX1_mayStand_99 : decode cX1_mayStand 99 = .ok (.invokestatic 137, 3) := by decide +kernel
theorem dX1_mayStand_102 : decode cX1_mayStand 102 = .ok (.ifCond .ne 7, 3) := by decide +kernel
theorem dX1_mayStand_105 : decode cX1_mayStand 105 = .ok (.iconst 1, 1) := by decide +kernel
theorem dX1_mayStand_106 : decode cX1_mayStand 106 = .ok (.goto 4, 3) := by decide +kernel
theorem dX1_mayStand_109 : decode cX1_mayStand 109 = .ok (.iconst 0, 1) := by decide +kernel
theorem dX1_mayStand_110 : decode cX1_mayStand 110 = .ok (.ireturn, 1) := by decide +kernel
theorem dX1_mayStand_111 : decode cX1_mayStand 111 = .ok (.ldc 142, 2) := by decide +kernel
theorem dX1_mayStand_113 : decode cX1_mayStand 113 = .ok (.ldc 136, 2) := by decide +kernel
theorem dX1_mayStand_115 : decode cX1_mayStand 115 = .ok (.iload_n 1, 1) := by decide +kernel
theorem dX1_mayStand_116 : decode cX1_mayStand 116 = .ok (.invokestatic 137, 3) := by decide +kernel
theorem dX1_mayStand_119 : decode cX1_mayStand 119 = .ok (.ireturn, 1) := by decide +kernel
theorem dX1_mayStand_120 : decode cX1_mayStand 120 = .ok (.iconst 1, 1) := by decide +kernel
theorem dX1_mayStand_121 : decode cX1_mayStand 121 = .ok (.ireturn, 1) := by decide +kernel
set_option maxRecDepth 20000 in
theorem ggX1_isSeen_X1_rowOf : GoodIn wsX1_isSeen wsX1_rowOf := goodIn_r _ [4, 5, 6, 7, 3, 8, 9] (by decide +kernel) (by decide +kernel)
set_option maxRecDepth 20000 in
theorem gX1_isSeen_X1_rowOf : GoodIn wsX1_isSeen (va_wsS RX1 99 yX1_rowOf wsX1_rowOf) := goodIn_app (goodIn_of _ (by decide +kernel)) ggX1_isSeen_X1_rowOf
theorem dX1_isSeen_0 : decode cX1_isSeen 0 = .ok (.iload_n 0, 1) := by decide +kernel
theorem dX1_isSeen_1 : decode cX1_isSeen 1 = .ok (.iload_n 1, 1) := by decide +kernel
theorem dX1_isSeen_2 : decode cX1_isSeen 2 = .ok (.invokestatic 99, 3) := by decide +kernel
theorem dX1_isSeen_5 : decode cX1_isSeen 5 = .ok (.istore_n 3, 1) := by decide +kernel
theorem dX1_isSeen_6 : decode cX1_isSeen 6 = .ok (.iload_n 3, 1) := by decide +kernel
theorem dX1_isSeen_7 : decode cX1_isSeen 7 = .ok (.iconst (-1), 1) := by decide +kernel
theorem dX1_isSeen_8 : decode cX1_isSeen 8 = .ok (.if_icmp .eq 15, 3) := by decide +kernel
theorem dX1_isSeen_11 : decode cX1_isSeen 11 = .ok (.iload_n 2, 1) := by decide +kernel
theorem dX1_isSeen_12 : decode cX1_isSeen 12 = .ok (.iload_n 3, 1) := by decide +kernel
theorem dX1_isSeen_13 : decode cX1_isSeen 13 = .ok (.ishr, 1) := by decide +kernel
theorem dX1_isSeen_14 : decode cX1_isSeen 14 = .ok (.iconst 1, 1) := by decide +kernel
theorem dX1_isSeen_15 : decode cX1_isSeen 15 = .ok (.iand, 1) := by decide +kernel
theorem dX1_isSeen_16 : decode cX1_isSeen 16 = .ok (.ifCond .eq 7, 3) := by decide +kernel
theorem dX1_isSeen_19 : decode cX1_isSeen 19 = .ok (.iconst 1, 1) := by decide +kernel
theorem dX1_isSeen_20 : decode cX1_isSeen 20 = .ok (.goto 4, 3) := by decide +kernel
theorem dX1_isSeen_23 : decode cX1_isSeen 23 = .ok (.iconst 0, 1) := by decide +kernel
theorem dX1_isSeen_24 : decode cX1_isSeen 24 = .ok (.ireturn, 1) := by decide +kernel
theorem dX1_markedWidth_0 : decode cX1_markedWidth 0 = .ok (.iconst 1, 1) := by decide +kernel
theorem dX1_markedWidth_1 : decode cX1_markedWidth 1 = .ok (.istore_n 1, 1) := by decide +kernel
theorem dX1_markedWidth_2 : decode cX1_markedWidth 2 = .ok (.iload_n 1, 1) := by decide +kernel
theorem dX1_markedWidth_3 : decode cX1_markedWidth 3 = .ok (.bipush 8, 2) := by decide +kernel
theorem dX1_markedWidth_5 : decode cX1_markedWidth 5 = .ok (.if_icmp .gt 21, 3) := by decide +kernel
theorem dX1_markedWidth_8 : decode cX1_markedWidth 8 = .ok (.iload_n 0, 1) := by decide +kernel
theorem dX1_markedWidth_9 : decode cX1_markedWidth 9 = .ok (.sipush 256, 3) := by decide +kernel
theorem dX1_markedWidth_12 : decode cX1_markedWidth 12 = .ok (.iload_n 1, 1) := by decide +kernel
theorem dX1_markedWidth_13 : decode cX1_markedWidth 13 = .ok (.ishr, 1) := by decide +kernel
theorem dX1_markedWidth_14 : decode cX1_markedWidth 14 = .ok (.iand, 1) := by decide +kernel
theorem dX1_markedWidth_15 : decode cX1_markedWidth 15 = .ok (.ifCond .eq 5, 3) := by decide +kernel
theorem dX1_markedWidth_18 : decode cX1_markedWidth 18 = .ok (.iload_n 1, 1) := by decide +kernel
theorem dX1_markedWidth_19 : decode cX1_markedWidth 19 = .ok (.ireturn, 1) := by decide +kernel
theorem dX1_markedWidth_20 : decode cX1_markedWidth 20 = .ok (.iinc 1 1, 3) := by decide +kernel
theorem dX1_markedWidth_23 : decode cX1_markedWidth 23 = .ok (.goto (-21), 3) := by decide +kernel
theorem dX1_markedWidth_26 : decode cX1_markedWidth 26 = .ok (.iconst 0, 1) := by decide +kernel
theorem dX1_markedWidth_27 : decode cX1_markedWidth 27 = .ok (.ireturn, 1) := by decide +kernel
set_option maxRecDepth 20000 in
theorem ggX1_readId_X8_at : GoodIn wsX1_readId wsX8_at := goodIn_r _ [6, 7, 8, 37, 38, 39, 40] (by decide +kernel) (by decide +kernel)
set_option maxRecDepth 20000 in
theorem gX1_readId_X8_at : GoodIn wsX1_readId (wsV RX1 105 RX8 yX8_at wsX8_at) := goodIn_app (goodIn_of _ (by decide +kernel)) ggX1_readId_X8_at
set_option maxRecDepth 20000 in
theorem ggX1_readId_X1_markedWidth : GoodIn wsX1_readId wsX1_markedWidth := goodIn_r _ [12] (by decide +kernel) (by decide +kernel)
set_option maxRecDepth 20000 in
theorem gX1_readId_X1_markedWidth : GoodIn wsX1_readId (va_wsS RX1 111 yX1_markedWidth wsX1_markedWidth) := goodIn_app (goodIn_of _ (by decide +kernel)) ggX1_readId_X1_markedWidth
set_option maxRecDepth 20000 in
theorem ggX1_readId_X1_fail : GoodIn wsX1_readId wsX1_fail := goodIn_r _ [16, 17, 18, 24, 25, 26, 27, 28, 29, 30, 31, 32, 33, 34, 35, 36] (by decide +kernel) (by decide +kernel)
set_option maxRecDepth 20000 in
theorem gX1_readId_X1_fail : GoodIn wsX1_readId (wsV RX1 71 RX1 yX1_fail wsX1_fail) := goodIn_app (goodIn_of _ (by decide +kernel)) ggX1_readId_X1_fail
set_option maxRecDepth 20000 in
theorem ggX1_readId_X8_highFirst : GoodIn wsX1_readId wsX8_highFirst := goodIn_r _ [22, 23, 3, 4, 5, 6, 7, 8, 37, 38, 39, 40] (by decide +kernel) (by decide +kernel)
set_option maxRecDepth 20000 in
theorem gX1_readId_X8_highFirst : GoodIn wsX1_readId (wsV RX1 143 RX8 yX8_highFirst wsX8_highFirst) := goodIn_app (goodIn_of _ (by decide +kernel)) ggX1_readId_X8_highFirst
theorem dX1_readId_0 : decode cX1_readId 0 = .ok (.aload_n 0, 1) := by decide +kernel
theorem dX1_readId_1 : decode cX1_readId 1 = .ok (.getfield 24, 3) := by decide +kernel
theorem dX1_readId_4 : decode cX1_readId 4 = .ok (.iload_n 1, 1) := by decide +kernel
theorem dX1_readId_5 : decode cX1_readId 5 = .ok (.invokevirtual 105, 3) := by decide +kernel
theorem dX1_readId_8 : decode cX1_readId 8 = .ok (.invokestatic 111, 3) := by decide +kernel
theorem dX1_readId_11 : decode cX1_readId 11 = .ok (.istore_n 3, 1) := by decide +kernel
theorem dX1_readId_12 : decode cX1_readId 12 = .ok (.iload_n 3, 1) := by decide +kernel
theorem dX1_readId_13 : decode cX1_readId 13 = .ok (.ifCond .eq 8, 3) := by decide +kernel
theorem dX1_readId_16 : decode cX1_readId 16 = .ok (.iload_n 3, 1) := by decide +kernel
theorem dX1_readId_17 : decode cX1_readId 17 = .ok (.iconst 4, 1) := by decide +kernel
theorem dX1_readId_18 : decode cX1_readId 18 = .ok (.if_icmp .le 10, 3) := by decide +kernel
theorem dX1_readId_21 : decode cX1_readId 21 = .ok (.aload_n 0, 1) := by decide +kernel
theorem dX1_readId_22 : decode cX1_readId 22 = .ok (.iconst 2, 1) := by decide +kernel
theorem dX1_readId_23 : decode cX1_readId 23 = .ok (.iload_n 1, 1) := by decide +kernel
theorem dX1_readId_24 : decode cX1_readId 24 = .ok (.invokevirtual 71, 3) := by decide +kernel
theorem dX1_readId_27 : decode cX1_readId 27 = .ok (.ireturn, 1) := by decide +kernel
theorem dX1_readId_28 : decode cX1_readId 28 = .ok (.iload_n 3, 1) := by decide +kernel
theorem dX1_readId_29 : decode cX1_readId 29 = .ok (.iload_n 2, 1) := by decide +kernel
theorem dX1_readId_30 : decode cX1_readId 30 = .ok (.iload_n 1, 1) := by decide +kernel
theorem dX1_readId_31 : decode cX1_readId 31 = .ok (.isub, 1) := by decide +kernel
theorem dX1_readId_32 : decode cX1_readId 32 = .ok (.if_icmp .le 10, 3) := by decide +kernel
theorem dX1_readId_35 : decode cX1_readId 35 = .ok (.aload_n 0, 1) := by decide +kernel
theorem dX1_readId_36 : decode cX1_readId 36 = .ok (.iconst 1, 1) := by decide +kernel
theorem dX1_readId_37 : decode cX1_readId 37 = .ok (.iload_n 1, 1) := by decide +kernel
theorem dX1_readId_38 : decode cX1_readId 38 = .ok (.invokevirtual 71, 3) := by decide +kernel
theorem dX1_readId_41 : decode cX1_readId 41 = .ok (.ireturn, 1) := by decide +kernel
theorem dX1_readId_42 : decode cX1_readId 42 = .ok (.aload_n 0, 1) := by decide +kernel
theorem dX1_readId_43 : decode cX1_readId 43 = .ok (.getfield 24, 3) := by decide +kernel
theorem dX1_readId_46 : decode cX1_readId 46 = .ok (.iload_n 1, 1) := by decide +kernel
theorem dX1_readId_47 : decode cX1_readId 47 = .ok (.iload_n 3, 1) := by decide +kernel
theorem dX1_readId_48 : decode cX1_readId 48 = .ok (.invokevirtual 143, 3) := by decide +kernel
theorem dX1_readId_51 : decode cX1_readId 51 = .ok (.l2i, 1) := by decide +kernel
theorem dX1_readId_52 : decode cX1_readId 52 = .ok (.ireturn, 1) := by decide +kernel
set_option maxRecDepth 20000 in
theorem ggX1_sizeWidth_X8_at : GoodIn wsX1_sizeWidth wsX8_at := goodIn_r _ [6, 7, 8, 26, 27, 28, 29] (by decide +kernel) (by decide +kernel)
set_option maxRecDepth 20000 in
theorem gX1_sizeWidth_X8_at : GoodIn wsX1_sizeWidth (wsV RX1 105 RX8 yX8_at wsX8_at) := goodIn_app (goodIn_of _ (by decide +kernel)) ggX1_sizeWidth_X8_at
set_option maxRecDepth 20000 in
theorem ggX1_sizeWidth_X1_markedWidth : GoodIn wsX1_sizeWidth wsX1_markedWidth := goodIn_r _ [12] (by decide +kernel) (by decide +kernel)
set_option maxRecDepth 20000 in
theorem gX1_sizeWidth_X1_markedWidth : GoodIn wsX1_sizeWidth (va_wsS RX1 111 yX1_markedWidth wsX1_markedWidth) := goodIn_app (goodIn_of _ (by decide +kernel)) ggX1_sizeWidth_X1_markedWidth
theorem dX1_sizeWidth_0 : decode cX1_sizeWidth 0 = .ok (.iload_n 1, 1) := by decide +kernel
theorem dX1_sizeWidth_1 : decode cX1_sizeWidth 1 = .ok (.iload_n 2, 1) := by decide +kernel
theorem dX1_sizeWidth_2 : decode cX1_sizeWidth 2 = .ok (.if_icmp .lt 5, 3) := by decide +kernel
theorem dX1_sizeWidth_5 : decode cX1_sizeWidth 5 = .ok (.iconst (-1), 1) := by decide +kernel
theorem dX1_sizeWidth_6 : decode cX1_sizeWidth 6 = .ok (.ireturn, 1) := by decide +kernel
theorem dX1_sizeWidth_7 : decode cX1_sizeWidth 7 = .ok (.aload_n 0, 1) := by decide +kernel
theorem dX1_sizeWidth_8 : decode cX1_sizeWidth 8 = .ok (.getfield 24, 3) := by decide +kernel
theorem dX1_sizeWidth_11 : decode cX1_sizeWidth 11 = .ok (.iload_n 1, 1) := by decide +kernel
theorem dX1_sizeWidth_12 : decode cX1_sizeWidth 12 = .ok (.invokevirtual 105, 3) := by decide +kernel
theorem dX1_sizeWidth_15 : decode cX1_sizeWidth 15 = .ok (.invokestatic 111, 3) := by decide +kernel
theorem dX1_sizeWidth_18 : decode cX1_sizeWidth 18 = .ok (.istore_n 3, 1) := by decide +kernel
theorem dX1_sizeWidth_19 : decode cX1_sizeWidth 19 = .ok (.iload_n 3, 1) := by decide +kernel
theorem dX1_sizeWidth_20 : decode cX1_sizeWidth 20 = .ok (.iload_n 2, 1) := by decide +kernel
theorem dX1_sizeWidth_21 : decode cX1_sizeWidth 21 = .ok (.iload_n 1, 1) := by decide +kernel
theorem dX1_sizeWidth_22 : decode cX1_sizeWidth 22 = .ok (.isub, 1) := by decide +kernel
theorem dX1_sizeWidth_23 : decode cX1_sizeWidth 23 = .ok (.if_icmp .le 7, 3) := by decide +kernel
theorem dX1_sizeWidth_26 : decode cX1_sizeWidth 26 = .ok (.iconst (-1), 1) := by decide +kernel
theorem dX1_sizeWidth_27 : decode cX1_sizeWidth 27 = .ok (.goto 4, 3) := by decide +kernel
theorem dX1_sizeWidth_30 : decode cX1_sizeWidth 30 = .ok (.iload_n 3, 1) := by decide +kernel
theorem dX1_sizeWidth_31 : decode cX1_sizeWidth 31 = .ok (.ireturn, 1) := by decide +kernel
set_option maxRecDepth 20000 in
theorem ggX1_sizeNumber_X8_at : GoodIn wsX1_sizeNumber wsX8_at := goodIn_r _ [7, 8, 9, 28, 29, 30, 31] (by decide +kernel) (by decide +kernel)
set_option maxRecDepth 20000 in
theorem gX1_sizeNumber_X8_at : GoodIn wsX1_sizeNumber (wsV RX1 105 RX8 yX8_at wsX8_at) := goodIn_app (goodIn_of _ (by decide +kernel)) ggX1_sizeNumber_X8_at
set_option maxRecDepth 20000 in
theorem ggX1_sizeNumber_X0_highestSize : GoodIn wsX1_sizeNumber wsX0_highestSize := goodIn_r _ [13, 14] (by decide +kernel) (by decide +kernel)
set_option maxRecDepth 20000 in
theorem gX1_sizeNumber_X0_highestSize : GoodIn wsX1_sizeNumber (va_wsS RX1 146 yX0_highestSize wsX0_highestSize) := goodIn_app (goodIn_of _ (by decide +kernel)) ggX1_sizeNumber_X0_highestSize
theorem dX1_sizeNumber_0 : decode cX1_sizeNumber 0 = .ok (.aload_n 0, 1) := by decide +kernel
theorem dX1_sizeNumber_1 : decode cX1_sizeNumber 1 = .ok (.getfield 24, 3) := by decide +kernel
theorem dX1_sizeNumber_4 : decode cX1_sizeNumber 4 = .ok (.iload_n 1, 1) := by decide +kernel
theorem dX1_sizeNumber_5 : decode cX1_sizeNumber 5 = .ok (.invokevirtual 105, 3) := by decide +kernel
theorem dX1_sizeNumber_8 : decode cX1_sizeNumber 8 = .ok (.sipush 255, 3) := by decide +kernel
theorem dX1_sizeNumber_11 : decode cX1_sizeNumber 11 = .ok (.iload_n 2, 1) := by decide +kernel
theorem dX1_sizeNumber_12 : decode cX1_sizeNumber 12 = .ok (.ishr, 1) := by decide +kernel
theorem dX1_sizeNumber_13 : decode cX1_sizeNumber 13 = .ok (.iand, 1) := by decide +kernel
theorem dX1_sizeNumber_14 : decode cX1_sizeNumber 14 = .ok (.i2l, 1) := by decide +kernel
theorem dX1_sizeNumber_15 : decode cX1_sizeNumber 15 = .ok (.lstore_n 3, 1) := by decide +kernel
theorem dX1_sizeNumber_16 : decode cX1_sizeNumber 16 = .ok (.iconst 1, 1) := by decide +kernel
theorem dX1_sizeNumber_17 : decode cX1_sizeNumber 17 = .ok (.istore 5, 2) := by decide +kernel
theorem dX1_sizeNumber_19 : decode cX1_sizeNumber 19 = .ok (.iload 5, 2) := by decide +kernel
theorem dX1_sizeNumber_21 : decode cX1_sizeNumber 21 = .ok (.iload_n 2, 1) := by decide +kernel
theorem dX1_sizeNumber_22 : decode cX1_sizeNumber 22 = .ok (.if_icmp .ge 27, 3) := by decide +kernel
theorem dX1_sizeNumber_25 : decode cX1_sizeNumber 25 = .ok (.lload_n 3, 1) := by decide +kernel
theorem dX1_sizeNumber_26 : decode cX1_sizeNumber 26 = .ok (.bipush 8, 2) := by decide +kernel
theorem dX1_sizeNumber_28 : decode cX1_sizeNumber 28 = .ok (.lshl, 1) := by decide +kernel
theorem dX1_sizeNumber_29 : decode cX1_sizeNumber 29 = .ok (.aload_n 0, 1) := by decide +kernel
theorem dX1_sizeNumber_30 : decode cX1_sizeNumber 30 = .ok (.getfield 24, 3) := by decide +kernel
theorem dX1_sizeNumber_33 : decode cX1_sizeNumber 33 = .ok (.iload_n 1, 1) := by decide +kernel
theorem dX1_sizeNumber_34 : decode cX1_sizeNumber 34 = .ok (.iload 5, 2) := by decide +kernel
theorem dX1_sizeNumber_36 : decode cX1_sizeNumber 36 = .ok (.iadd, 1) := by decide +kernel
theorem dX1_sizeNumber_37 : decode cX1_sizeNumber 37 = .ok (.invokevirtual 105, 3) := by decide +kernel
theorem dX1_sizeNumber_40 : decode cX1_sizeNumber 40 = .ok (.i2l, 1) := by decide +kernel
theorem dX1_sizeNumber_41 : decode cX1_sizeNumber 41 = .ok (.lor, 1) := by decide +kernel
theorem dX1_sizeNumber_42 : decode cX1_sizeNumber 42 = .ok (.lstore_n 3, 1) := by decide +kernel
theorem dX1_sizeNumber_43 : decode cX1_sizeNumber 43 = .ok (.iinc 5 1, 3) := by decide +kernel
theorem dX1_sizeNumber_46 : decode cX1_sizeNumber 46 = .ok (.goto (-27), 3) := by decide +kernel
theorem dX1_sizeNumber_49 : decode cX1_sizeNumber 49 = .ok (.lload_n 3, 1) := by decide +kernel
theorem dX1_sizeNumber_50 : decode cX1_sizeNumber 50 = .ok (.iload_n 2, 1) := by decide +kernel
theorem dX1_sizeNumber_51 : decode cX1_sizeNumber 51 = .ok (.invokestatic 146, 3) := by decide +kernel
theorem dX1_sizeNumber_54 : decode cX1_sizeNumber 54 = .ok (.lcmp, 1) := by decide +kernel
theorem dX1_sizeNumber_55 : decode cX1_sizeNumber 55 = .ok (.ifCond .le 9, 3) := by decide +kernel
theorem dX1_sizeNumber_58 : decode cX1_sizeNumber 58 = .ok (.ldc2_w 45, 3) := by decide +kernel
theorem dX1_sizeNumber_61 : decode cX1_sizeNumber 61 = .ok (.goto 4, 3) := by decide +kernel
theorem dX1_sizeNumber_64 : decode cX1_sizeNumber 64 = .ok (.lload_n 3, 1) := by decide +kernel
theorem dX1_sizeNumber_65 : decode cX1_sizeNumber 65 = .ok (.lreturn, 1) := by decide +kernel
set_option maxRecDepth 20000 in
theorem ggX1_readSize_X1_sizeWidth : GoodIn wsX1_readSize wsX1_sizeWidth := goodIn_r _ [10, 11, 12, 13, 14, 15, 16, 17, 18, 19, 20, 9, 21, 37, 38, 39, 40, 41, 42, 43, 44, 45, 46, 47, 48, 49, 50, 51, 52, 53] (by decide +kernel) (by decide +kernel)
set_option maxRecDepth 20000 in
theorem gX1_readSize_X1_sizeWidth : GoodIn wsX1_readSize (wsV RX1 150 RX1 yX1_sizeWidth wsX1_sizeWidth) := goodIn_app (goodIn_of _ (by decide +kernel)) ggX1_readSize_X1_sizeWidth
set_option maxRecDepth 20000 in
theorem ggX1_readSize_X1_fail : GoodIn wsX1_readSize wsX1_fail := goodIn_r _ [25, 26, 27, 37, 38, 39, 40, 41, 42, 43, 44, 45, 46, 47, 48, 49] (by decide +kernel) (by decide +kernel)
set_option maxRecDepth 20000 in
theorem gX1_readSize_X1_fail : GoodIn wsX1_readSize (wsV RX1 71 RX1 yX1_fail wsX1_fail) := goodIn_app (goodIn_of _ (by decide +kernel)) ggX1_readSize_X1_fail
set_option maxRecDepth 20000 in
theorem ggX1_readSize_X1_sizeNumber : GoodIn wsX1_readSize wsX1_sizeNumber := goodIn_r _ [31, 11, 5, 12, 13, 14, 15, 16, 17, 18, 32, 33, 34, 35, 36, 37, 38, 39, 40, 41, 42, 43, 44, 45, 46, 47, 48, 49, 50, 51, 52, 53] (by decide +kernel) (by decide +kernel)
set_option maxRecDepth 20000 in
theorem gX1_readSize_X1_sizeNumber : GoodIn wsX1_readSize (wsV RX1 153 RX1 yX1_sizeNumber wsX1_sizeNumber) := goodIn_app (goodIn_of _ (by decide +kernel)) ggX1_readSize_X1_sizeNumber
theorem dX1_readSize_0 : decode cX1_readSize 0 = .ok (.aload_n 0, 1) := by decide +kernel
theorem dX1_readSize_1 : decode cX1_readSize 1 = .ok (.iload_n 2, 1) := by decide +kernel
theorem dX1_readSize_2 : decode cX1_readSize 2 = .ok (.iload_n 3, 1) := by decide +kernel
theorem dX1_readSize_3 : decode cX1_readSize 3 = .ok (.invokevirtual 150, 3) := by decide +kernel
theorem dX1_readSize_6 : decode cX1_readSize 6 = .ok (.istore 5, 2) := by decide +kernel
theorem dX1_readSize_8 : decode cX1_readSize 8 = .ok (.iload 5, 2) := by decide +kernel
theorem dX1_readSize_10 : decode cX1_readSize 10 = .ok (.iconst (-1), 1) := by decide +kernel
theorem dX1_readSize_11 : decode cX1_readSize 11 = .ok (.if_icmp .ne 10, 3) := by decide +kernel
theorem dX1_readSize_14 : decode cX1_readSize 14 = .ok (.aload_n 0, 1) := by decide +kernel
theorem dX1_readSize_15 : decode cX1_readSize 15 = .ok (.iconst 1, 1) := by decide +kernel
theorem dX1_readSize_16 : decode cX1_readSize 16 = .ok (.iload_n 1, 1) := by decide +kernel
theorem dX1_readSize_17 : decode cX1_readSize 17 = .ok (.invokevirtual 71, 3) := by decide +kernel
theorem dX1_readSize_20 : decode cX1_readSize 20 = .ok (.ireturn, 1) := by decide +kernel
theorem dX1_readSize_21 : decode cX1_readSize 21 = .ok (.iload 5, 2) := by decide +kernel
theorem dX1_readSize_23 : decode cX1_readSize 23 = .ok (.ifCond .ne 10, 3) := by decide +kernel
theorem dX1_readSize_26 : decode cX1_readSize 26 = .ok (.aload_n 0, 1) := by decide +kernel
theorem dX1_readSize_27 : decode cX1_readSize 27 = .ok (.iconst 3, 1) := by decide +kernel
theorem dX1_readSize_28 : decode cX1_readSize 28 = .ok (.iload_n 1, 1) := by decide +kernel
theorem dX1_readSize_29 : decode cX1_readSize 29 = .ok (.invokevirtual 71, 3) := by decide +kernel
theorem dX1_readSize_32 : decode cX1_readSize 32 = .ok (.ireturn, 1) := by decide +kernel
theorem dX1_readSize_33 : decode cX1_readSize 33 = .ok (.aload_n 0, 1) := by decide +kernel
theorem dX1_readSize_34 : decode cX1_readSize 34 = .ok (.aload_n 0, 1) := by decide +kernel
theorem dX1_readSize_35 : decode cX1_readSize 35 = .ok (.iload_n 2, 1) := by decide +kernel
theorem dX1_readSize_36 : decode cX1_readSize 36 = .ok (.iload 5, 2) := by decide +kernel
theorem dX1_readSize_38 : decode cX1_readSize 38 = .ok (.invokevirtual 153, 3) := by decide +kernel
theorem dX1_readSize_41 : decode cX1_readSize 41 = .ok (.putfield 89, 3) := by decide +kernel
theorem dX1_readSize_44 : decode cX1_readSize 44 = .ok (.iload 4, 2) := by decide +kernel
theorem dX1_readSize_46 : decode cX1_readSize 46 = .ok (.ldc 136, 2) := by decide +kernel
theorem dX1_readSize_48 : decode cX1_readSize 48 = .ok (.if_icmp .eq 10, 3) := by decide +kernel
theorem dX1_readSize_51 : decode cX1_readSize 51 = .ok (.iload 4, 2) := by decide +kernel
theorem dX1_readSize_53 : decode cX1_readSize 53 = .ok (.ldc 88, 2) := by decide +kernel
theorem dX1_readSize_55 : decode cX1_readSize 55 = .ok (.if_icmp .ne 7, 3) := by decide +kernel
theorem dX1_readSize_58 : decode cX1_readSize 58 = .ok (.iconst 1, 1) := by decide +kernel
theorem dX1_readSize_59 : decode cX1_readSize 59 = .ok (.goto 4, 3) := by decide +kernel
theorem dX1_readSize_62 : decode cX1_readSize 62 = .ok (.iconst 0, 1) := by decide +kernel
theorem dX1_readSize_63 : decode cX1_readSize 63 = .ok (.istore 6, 2) := by decide +kernel
theorem dX1_readSize_65 : decode cX1_readSize 65 = .ok (.aload_n 0, 1) := by decide +kernel
theorem dX1_readSize_66 : decode cX1_readSize 66 = .ok (.getfield 89, 3) := by decide +kernel
theorem dX1_readSize_69 : decode cX1_readSize 69 = .ok (.ldc2_w 156, 3) := by decide +kernel
theorem dX1_readSize_72 : decode cX1_readSize 72 = .ok (.lcmp, 1) := by decide +kernel
theorem dX1_readSize_73 : decode cX1_readSize 73 = .ok (.ifCond .gt 19, 3) := by decide +kernel
theorem dX1_readSize_76 : decode cX1_readSize 76 = .ok (.aload_n 0, 1) := by decide +kernel
theorem dX1_readSize_77 : decode cX1_readSize 77 = .ok (.getfield 89, 3) := by decide +kernel
theorem dX1_readSize_80 : decode cX1_readSize 80 = .ok (.ldc2_w 45, 3) := by decide +kernel
theorem dX1_readSize_83 : decode cX1_readSize 83 = .ok (.lcmp, 1) := by decide +kernel
theorem dX1_readSize_84 : decode cX1_readSize 84 = .ok (.ifCond .ne 15, 3) := by decide +kernel
theorem dX1_readSize_87 : decode cX1_readSize 87 = .ok (.iload 6, 2) := by decide +kernel
theorem dX1_readSize_89 : decode cX1_readSize 89 = .ok (.ifCond .ne 10, 3) := by decide +kernel
theorem dX1_readSize_92 : decode cX1_readSize 92 = .ok (.aload_n 0, 1) := by decide +kernel
theorem dX1_readSize_93 : decode cX1_readSize 93 = .ok (.iconst 3, 1) := by decide +kernel
theorem dX1_readSize_94 : decode cX1_readSize 94 = .ok (.iload_n 1, 1) := by decide +kernel
theorem dX1_readSize_95 : decode cX1_readSize 95 = .ok (.invokevirtual 71, 3) := by decide +kernel
theorem dX1_readSize_98 : decode cX1_readSize 98 = .ok (.ireturn, 1) := by decide +kernel
theorem dX1_readSize_99 : decode cX1_readSize 99 = .ok (.aload_n 0, 1) := by decide +kernel
theorem dX1_readSize_100 : decode cX1_readSize 100 = .ok (.getfield 89, 3) := by decide +kernel
theorem dX1_readSize_103 : decode cX1_readSize 103 = .ok (.iload_n 3, 1) := by decide +kernel
theorem dX1_readSize_104 : decode cX1_readSize 104 = .ok (.iload_n 2, 1) := by decide +kernel
theorem dX1_readSize_105 : decode cX1_readSize 105 = .ok (.isub, 1) := by decide +kernel
theorem dX1_readSize_106 : decode cX1_readSize 106 = .ok (.iload 5, 2) := by decide +kernel
theorem dX1_readSize_108 : decode cX1_readSize 108 = .ok (.isub, 1) := by decide +kernel
theorem dX1_readSize_109 : decode cX1_readSize 109 = .ok (.i2l, 1) := by decide +kernel
theorem dX1_readSize_110 : decode cX1_readSize 110 = .ok (.lcmp, 1) := by decide +kernel
theorem dX1_readSize_111 : decode cX1_readSize 111 = .ok (.ifCond .le 10, 3) := by decide +kernel
theorem dX1_readSize_114 : decode cX1_readSize 114 = .ok (.aload_n 0, 1) := by decide +kernel
theorem dX1_readSize_115 : decode cX1_readSize 115 = .ok (.iconst 1, 1) := by decide +kernel
theorem dX1_readSize_116 : decode cX1_readSize 116 = .ok (.iload_n 1, 1) := by decide +kernel
theorem dX1_readSize_117 : decode cX1_readSize 117 = .ok (.invokevirtual 71, 3) := by decide +kernel
theorem dX1_readSize_120 : decode cX1_readSize 120 = .ok (.ireturn, 1) := by decide +kernel
theorem dX1_readSize_121 : decode cX1_readSize 121 = .ok (.iload_n 2, 1) := by decide +kernel
theorem dX1_readSize_122 : decode cX1_readSize 122 = .ok (.iload 5, 2) := by decide +kernel
theorem dX1_readSize_124 : decode cX1_readSize 124 = .ok (.iadd, 1) := by decide +kernel
theorem dX1_readSize_125 : decode cX1_readSize 125 = .ok (.ireturn, 1) := by decide +kernel
set_option maxRecDepth 20000 in
theorem ggX1_readUint_X1_fail : GoodIn wsX1_readUint wsX1_fail := goodIn_r _ [10, 11, 12, 29, 30, 31, 32, 33, 34, 35, 36, 37, 38, 39, 40, 41] (by decide +kernel) (by decide +kernel)
set_option maxRecDepth 20000 in
theorem gX1_readUint_X1_fail : GoodIn wsX1_readUint (wsV RX1 71 RX1 yX1_fail wsX1_fail) := goodIn_app (goodIn_of _ (by decide +kernel)) ggX1_readUint_X1_fail
set_option maxRecDepth 20000 in
theorem ggX1_readUint_X8_highFirst : GoodIn wsX1_readUint wsX8_highFirst := goodIn_r _ [17, 18, 19, 20, 16, 21, 22, 23, 42, 43, 44, 45] (by decide +kernel) (by decide +kernel)
set_option maxRecDepth 20000 in
theorem gX1_readUint_X8_highFirst : GoodIn wsX1_readUint (wsV RX1 143 RX8 yX8_highFirst wsX8_highFirst) := goodIn_app (goodIn_of _ (by decide +kernel)) ggX1_readUint_X8_highFirst
set_option maxRecDepth 20000 in
theorem ggX1_readUint_X1_column : GoodIn wsX1_readUint wsX1_column := goodIn_r _ [26, 27, 28] (by decide +kernel) (by decide +kernel)
set_option maxRecDepth 20000 in
theorem gX1_readUint_X1_column : GoodIn wsX1_readUint (va_wsS RX1 117 yX1_column wsX1_column) := goodIn_app (goodIn_of _ (by decide +kernel)) ggX1_readUint_X1_column
theorem dX1_readUint_0 : decode cX1_readUint 0 = .ok (.iload 4, 2) := by decide +kernel
theorem dX1_readUint_2 : decode cX1_readUint 2 = .ok (.iload_n 3, 1) := by decide +kernel
theorem dX1_readUint_3 : decode cX1_readUint 3 = .ok (.isub, 1) := by decide +kernel
theorem dX1_readUint_4 : decode cX1_readUint 4 = .ok (.bipush 8, 2) := by decide +kernel
theorem dX1_readUint_6 : decode cX1_readUint 6 = .ok (.if_icmp .le 10, 3) := by decide +kernel
theorem dX1_readUint_9 : decode cX1_readUint 9 = .ok (.aload_n 0, 1) := by decide +kernel
theorem dX1_readUint_10 : decode cX1_readUint 10 = .ok (.iconst 5, 1) := by decide +kernel
theorem dX1_readUint_11 : decode cX1_readUint 11 = .ok (.iload_n 2, 1) := by decide +kernel
theorem dX1_readUint_12 : decode cX1_readUint 12 = .ok (.invokevirtual 71, 3) := by decide +kernel
theorem dX1_readUint_15 : decode cX1_readUint 15 = .ok (.ireturn, 1) := by decide +kernel
theorem dX1_readUint_16 : decode cX1_readUint 16 = .ok (.aload_n 0, 1) := by decide +kernel
theorem dX1_readUint_17 : decode cX1_readUint 17 = .ok (.getfield 24, 3) := by decide +kernel
theorem dX1_readUint_20 : decode cX1_readUint 20 = .ok (.iload_n 3, 1) := by decide +kernel
theorem dX1_readUint_21 : decode cX1_readUint 21 = .ok (.iload 4, 2) := by decide +kernel
theorem dX1_readUint_23 : decode cX1_readUint 23 = .ok (.iload_n 3, 1) := by decide +kernel
theorem dX1_readUint_24 : decode cX1_readUint 24 = .ok (.isub, 1) := by decide +kernel
theorem dX1_readUint_25 : decode cX1_readUint 25 = .ok (.invokevirtual 143, 3) := by decide +kernel
theorem dX1_readUint_28 : decode cX1_readUint 28 = .ok (.lstore 5, 2) := by decide +kernel
theorem dX1_readUint_30 : decode cX1_readUint 30 = .ok (.lload 5, 2) := by decide +kernel
theorem dX1_readUint_32 : decode cX1_readUint 32 = .ok (.iload_n 1, 1) := by decide +kernel
theorem dX1_readUint_33 : decode cX1_readUint 33 = .ok (.iconst 4, 1) := by decide +kernel
theorem dX1_readUint_34 : decode cX1_readUint 34 = .ok (.invokestatic 117, 3) := by decide +kernel
theorem dX1_readUint_37 : decode cX1_readUint 37 = .ok (.lcmp, 1) := by decide +kernel
theorem dX1_readUint_38 : decode cX1_readUint 38 = .ok (.ifCond .lt 14, 3) := by decide +kernel
theorem dX1_readUint_41 : decode cX1_readUint 41 = .ok (.lload 5, 2) := by decide +kernel
theorem dX1_readUint_43 : decode cX1_readUint 43 = .ok (.iload_n 1, 1) := by decide +kernel
theorem dX1_readUint_44 : decode cX1_readUint 44 = .ok (.iconst 5, 1) := by decide +kernel
theorem dX1_readUint_45 : decode cX1_readUint 45 = .ok (.invokestatic 117, 3) := by decide +kernel
theorem dX1_readUint_48 : decode cX1_readUint 48 = .ok (.lcmp, 1) := by decide +kernel
theorem dX1_readUint_49 : decode cX1_readUint 49 = .ok (.ifCond .le 10, 3) := by decide +kernel
theorem dX1_readUint_52 : decode cX1_readUint 52 = .ok (.aload_n 0, 1) := by decide +kernel
theorem dX1_readUint_53 : decode cX1_readUint 53 = .ok (.iconst 5, 1) := by decide +kernel
theorem dX1_readUint_54 : decode cX1_readUint 54 = .ok (.iload_n 2, 1) := by decide +kernel
theorem dX1_readUint_55 : decode cX1_readUint 55 = .ok (.invokevirtual 71, 3) := by decide +kernel
theorem dX1_readUint_58 : decode cX1_readUint 58 = .ok (.ireturn, 1) := by decide +kernel
theorem dX1_readUint_59 : decode cX1_readUint 59 = .ok (.iload_n 1, 1) := by decide +kernel
theorem dX1_readUint_60 : decode cX1_readUint 60 = .ok (.iconst 0, 1) := by decide +kernel
theorem dX1_readUint_61 : decode cX1_readUint 61 = .ok (.invokestatic 117, 3) := by decide +kernel
theorem dX1_readUint_64 : decode cX1_readUint 64 = .ok (.ldc2_w 158, 3) := by decide +kernel
theorem dX1_readUint_67 : decode cX1_readUint 67 = .ok (.lcmp, 1) := by decide +kernel
theorem dX1_readUint_68 : decode cX1_readUint 68 = .ok (.ifCond .ne 9, 3) := by decide +kernel
theorem dX1_readUint_71 : decode cX1_readUint 71 = .ok (.aload_n 0, 1) := by decide +kernel
theorem dX1_readUint_72 : decode cX1_readUint 72 = .ok (.lload 5, 2) := by decide +kernel
theorem dX1_readUint_74 : decode cX1_readUint 74 = .ok (.putfield 47, 3) := by decide +kernel
theorem dX1_readUint_77 : decode cX1_readUint 77 = .ok (.iload_n 1, 1) := by decide +kernel
theorem dX1_readUint_78 : decode cX1_readUint 78 = .ok (.iconst 0, 1) := by decide +kernel
theorem dX1_readUint_79 : decode cX1_readUint 79 = .ok (.invokestatic 117, 3) := by decide +kernel
theorem dX1_readUint_82 : decode cX1_readUint 82 = .ok (.ldc2_w 160, 3) := by decide +kernel
theorem dX1_readUint_85 : decode cX1_readUint 85 = .ok (.lcmp, 1) := by decide +kernel
theorem dX1_readUint_86 : decode cX1_readUint 86 = .ok (.ifCond .ne 9, 3) := by decide +kernel
theorem dX1_readUint_89 : decode cX1_readUint 89 = .ok (.aload_n 0, 1) := by decide +kernel
theorem dX1_readUint_90 : decode cX1_readUint 90 = .ok (.lload 5, 2) := by decide +kernel
theorem dX1_readUint_92 : decode cX1_readUint 92 = .ok (.putfield 51, 3) := by decide +kernel
theorem dX1_readUint_95 : decode cX1_readUint 95 = .ok (.iload 4, 2) := by decide +kernel
theorem dX1_readUint_97 : decode cX1_readUint 97 = .ok (.ireturn, 1) := by decide +kernel
set_option maxRecDepth 20000 in
theorem ggX1_isDocumentName_J0_length_8abf5 : GoodIn wsX1_isDocumentName wsJ0_length_8abf5 := goodIn_r _ [6, 7, 8, 9, 10, 5, 11, 12, 13] (by decide +kernel) (by decide +kernel)
set_option maxRecDepth 20000 in
theorem gX1_isDocumentName_J0_length_8abf5 : GoodIn wsX1_isDocumentName (wsV RX1 164 RJ0 yJ0_length_8abf5 wsJ0_length_8abf5) := goodIn_app (goodIn_of _ (by decide +kernel)) ggX1_isDocumentName_J0_length_8abf5
set_option maxRecDepth 20000 in
theorem ggX1_isDocumentName_X8_at : GoodIn wsX1_isDocumentName wsX8_at := goodIn_r _ [18, 19, 20, 71, 72, 73, 74] (by decide +kernel) (by decide +kernel)
set_option maxRecDepth 20000 in
theorem gX1_isDocumentName_X8_at : GoodIn wsX1_isDocumentName (wsV RX1 105 RX8 yX8_at wsX8_at) := goodIn_app (goodIn_of _ (by decide +kernel)) ggX1_isDocumentName_X8_at
set_option maxRecDepth 20000 in
theorem ggX1_isDocumentName_J0_charAt_5068e : GoodIn wsX1_isDocumentName wsJ0_charAt_5068e := goodIn_r _ [24, 7, 25, 26, 27, 5, 28, 12, 13, 29, 30, 31, 32, 33, 34, 35, 36, 37, 38, 39, 40, 41, 42, 43, 44, 45, 46, 47, 48, 49, 50, 51, 52, 53, 54, 55, 56, 57] (by decide +kernel) (by decide +kernel)
set_option maxRecDepth 20000 in
theorem gX1_isDocumentName_J0_charAt_5068e : GoodIn wsX1_isDocumentName (wsV RX1 170 RJ0 yJ0_charAt_5068e wsJ0_charAt_5068e) := goodIn_app (goodIn_of _ (by decide +kernel)) ggX1_isDocumentName_J0_charAt_5068e
theorem dX1_isDocumentName_0 : decode cX1_isDocumentName 0 = .ok (.iload_n 2, 1) := by decide +kernel
theorem dX1_isDocumentName_1 : decode cX1_isDocumentName 1 = .ok (.iload_n 1, 1) := by decide +kernel
theorem dX1_isDocumentName_2 : decode cX1_isDocumentName 2 = .ok (.isub, 1) := by decide +kernel
theorem dX1_isDocumentName_3 : decode cX1_isDocumentName 3 = .ok (.ldc 162, 2) := by decide +kernel
theorem dX1_isDocumentName_5 : decode cX1_isDocumentName 5 = .ok (.invokevirtual 164, 3) := by decide +kernel
theorem dX1_isDocumentName_8 : decode cX1_isDocumentName 8 = .ok (.if_icmp .eq 5, 3) := by decide +kernel
theorem dX1_isDocumentName_11 : decode cX1_isDocumentName 11 = .ok (.iconst 0, 1) := by decide +kernel
theorem dX1_isDocumentName_12 : decode cX1_isDocumentName 12 = .ok (.ireturn, 1) := by decide +kernel
theorem dX1_isDocumentName_13 : decode cX1_isDocumentName 13 = .ok (.iconst 0, 1) := by decide +kernel
theorem dX1_isDocumentName_14 : decode cX1_isDocumentName 14 = .ok (.istore_n 3, 1) := by decide +kernel
theorem dX1_isDocumentName_15 : decode cX1_isDocumentName 15 = .ok (.iload_n 3, 1) := by decide +kernel
theorem dX1_isDocumentName_16 : decode cX1_isDocumentName 16 = .ok (.ldc 162, 2) := by decide +kernel
theorem dX1_isDocumentName_18 : decode cX1_isDocumentName 18 = .ok (.invokevirtual 164, 3) := by decide +kernel
theorem dX1_isDocumentName_21 : decode cX1_isDocumentName 21 = .ok (.if_icmp .ge 30, 3) := by decide +kernel
theorem dX1_isDocumentName_24 : decode cX1_isDocumentName 24 = .ok (.aload_n 0, 1) := by decide +kernel
theorem dX1_isDocumentName_25 : decode cX1_isDocumentName 25 = .ok (.getfield 24, 3) := by decide +kernel
theorem dX1_isDocumentName_28 : decode cX1_isDocumentName 28 = .ok (.iload_n 1, 1) := by decide +kernel
theorem dX1_isDocumentName_29 : decode cX1_isDocumentName 29 = .ok (.iload_n 3, 1) := by decide +kernel
theorem dX1_isDocumentName_30 : decode cX1_isDocumentName 30 = .ok (.iadd, 1) := by decide +kernel
theorem dX1_isDocumentName_31 : decode cX1_isDocumentName 31 = .ok (.invokevirtual 105, 3) := by decide +kernel
theorem dX1_isDocumentName_34 : decode cX1_isDocumentName 34 = .ok (.ldc 162, 2) := by decide +kernel
theorem dX1_isDocumentName_36 : decode cX1_isDocumentName 36 = .ok (.iload_n 3, 1) := by decide +kernel
theorem dX1_isDocumentName_37 : decode cX1_isDocumentName 37 = .ok (.invokevirtual 170, 3) := by decide +kernel
theorem dX1_isDocumentName_40 : decode cX1_isDocumentName 40 = .ok (.if_icmp .eq 5, 3) := by decide +kernel
theorem dX1_isDocumentName_43 : decode cX1_isDocumentName 43 = .ok (.iconst 0, 1) := by decide +kernel
theorem dX1_isDocumentName_44 : decode cX1_isDocumentName 44 = .ok (.ireturn, 1) := by decide +kernel
theorem dX1_isDocumentName_45 : decode cX1_isDocumentName 45 = .ok (.iinc 3 1, 3) := by decide +kernel
theorem dX1_isDocumentName_48 : decode cX1_isDocumentName 48 = .ok (.goto (-33), 3) := by decide +kernel
theorem dX1_isDocumentName_51 : decode cX1_isDocumentName 51 = .ok (.iconst 1, 1) := by decide +kernel
theorem dX1_isDocumentName_52 : decode cX1_isDocumentName 52 = .ok (.ireturn, 1) := by decide +kernel
set_option maxRecDepth 20000 in
theorem ggX1_readBlock_X1_fail : GoodIn wsX1_readBlock wsX1_fail := goodIn_r _ [13, 14, 15, 97, 98, 99, 100, 101, 102, 103, 104, 105, 106, 107, 108, 109] (by decide +kernel) (by decide +kernel)
set_option maxRecDepth 20000 in
theorem gX1_readBlock_X1_fail : GoodIn wsX1_readBlock (wsV RX1 71 RX1 yX1_fail wsX1_fail) := goodIn_app (goodIn_of _ (by decide +kernel)) ggX1_readBlock_X1_fail
set_option maxRecDepth 20000 in
theorem ggX1_readBlock_X1_sizeWidth : GoodIn wsX1_readBlock wsX1_sizeWidth := goodIn_r _ [19, 4, 20, 21, 22, 23, 24, 25, 26, 27, 28, 12, 29, 97, 98, 99, 100, 101, 102, 103, 104, 105, 106, 107, 108, 109, 110, 111, 112, 113] (by decide +kernel) (by decide +kernel)
set_option maxRecDepth 20000 in
theorem gX1_readBlock_X1_sizeWidth : GoodIn wsX1_readBlock (wsV RX1 150 RX1 yX1_sizeWidth wsX1_sizeWidth) := goodIn_app (goodIn_of _ (by decide +kernel)) ggX1_readBlock_X1_sizeWidth
set_option maxRecDepth 20000 in
theorem ggX1_readBlock_X1_sizeNumber : GoodIn wsX1_readBlock wsX1_sizeNumber := goodIn_r _ [33, 4, 2, 20, 21, 22, 23, 24, 25, 26, 34, 35, 36, 37, 38, 97, 98, 99, 100, 101, 102, 103, 104, 105, 106, 107, 108, 109, 110, 111, 112, 113] (by decide +kernel) (by decide +kernel)
set_option maxRecDepth 20000 in
theorem gX1_readBlock_X1_sizeNumber : GoodIn wsX1_readBlock (wsV RX1 153 RX1 yX1_sizeNumber wsX1_sizeNumber) := goodIn_app (goodIn_of _ (by decide +kernel)) ggX1_readBlock_X1_sizeNumber
set_option maxRecDepth 20000 in
theorem ggX1_readBlock_X8_highFirst : GoodIn wsX1_readBlock wsX8_highFirst := goodIn_r _ [42, 43, 21, 22, 23, 24, 25, 26, 110, 111, 112, 113] (by decide +kernel) (by decide +kernel)
set_option maxRecDepth 20000 in
theorem gX1_readBlock_X8_highFirst : GoodIn wsX1_readBlock (wsV RX1 143 RX8 yX8_highFirst wsX8_highFirst) := goodIn_app (goodIn_of _ (by decide +kernel)) ggX1_readBlock_X8_highFirst
set_option maxRecDepth 20000 in
theorem ggX1_readBlock_X8_at : GoodIn wsX1_readBlock wsX8_at := goodIn_r _ [24, 25, 26, 110, 111, 112, 113] (by decide +kernel) (by decide +kernel)
set_option maxRecDepth 20000 in
theorem gX1_readBlock_X8_at : GoodIn wsX1_readBlock (wsV RX1 105 RX8 yX8_at wsX8_at) := goodIn_app (goodIn_of _ (by decide +kernel)) ggX1_readBlock_X8_at
set_option maxRecDepth 20000 in
theorem ggX1_readBlock_X1_readLacing : GoodIn wsX1_readBlock wsX1_readLacing := goodIn_r _ [47, 7, 48, 4, 20, 21, 22, 23, 24, 25, 26, 49, 50, 51, 12, 52, 53, 54, 55, 56, 2, 57, 58, 59, 60, 16, 17, 18, 19, 27, 28, 29, 30, 31, 32, 33, 34, 35, 36, 37, 38, 61, 62, 63, 97, 98, 99, 100, 101, 102, 103, 104, 105, 106, 107, 108, 109, 110, 111, 112, 113] (by decide +kernel) (by decide +kernel)
set_option maxRecDepth 20000 in
theorem gX1_readBlock_X1_readLacing : GoodIn wsX1_readBlock (wsV RX1 176 RX1 yX1_readLacing wsX1_readLacing) := goodIn_app (goodIn_of _ (by decide +kernel)) ggX1_readBlock_X1_readLacing
set_option maxRecDepth 20000 in
theorem ggX1_readBlock_X4_hasRoom : GoodIn wsX1_readBlock wsX4_hasRoom := goodIn_r _ [68, 69, 70, 71, 114, 115, 116, 117, 110, 111, 112, 113] (by decide +kernel) (by decide +kernel)
set_option maxRecDepth 20000 in
theorem gX1_readBlock_X4_hasRoom : GoodIn wsX1_readBlock (wsV RX1 183 RX4 yX4_hasRoom wsX4_hasRoom) := goodIn_app (goodIn_of _ (by decide +kernel)) ggX1_readBlock_X4_hasRoom
set_option maxRecDepth 20000 in
theorem ggX1_readBlock_X1_takePackets : GoodIn wsX1_readBlock wsX1_takePackets := goodIn_r _ [75, 7, 48, 6, 76, 4, 2, 77, 78, 79, 23, 80, 43, 21, 22, 24, 25, 26, 81, 82, 83, 84, 85, 86, 87, 88, 89, 90, 91, 92, 93, 67, 94, 69, 95, 70, 71, 96, 97, 98, 99, 100, 101, 102, 103, 104, 105, 106, 107, 108, 109, 114, 115, 116, 117, 110, 111, 112, 113] (by decide +kernel) (by decide +kernel)
set_option maxRecDepth 20000 in
theorem gX1_readBlock_X1_takePackets : GoodIn wsX1_readBlock (wsV RX1 188 RX1 yX1_takePackets wsX1_takePackets) := goodIn_app (goodIn_of _ (by decide +kernel)) ggX1_readBlock_X1_takePackets
theorem dX1_readBlock_0 : decode cX1_readBlock 0 = .ok (.aload_n 0, 1) := by decide +kernel
theorem dX1_readBlock_1 : decode cX1_readBlock 1 = .ok (.getfield 51, 3) := by decide +kernel
theorem dX1_readBlock_4 : decode cX1_readBlock 4 = .ok (.ldc2_w 45, 3) := by decide +kernel
theorem dX1_readBlock_7 : decode cX1_readBlock 7 = .ok (.lcmp, 1) := by decide +kernel
theorem dX1_readBlock_8 : decode cX1_readBlock 8 = .ok (.ifCond .ne 11, 3) := by decide +kernel
theorem dX1_readBlock_11 : decode cX1_readBlock 11 = .ok (.aload_n 0, 1) := by decide +kernel
theorem dX1_readBlock_12 : decode cX1_readBlock 12 = .ok (.bipush 7, 2) := by decide +kernel
theorem dX1_readBlock_14 : decode cX1_readBlock 14 = .ok (.iload_n 2, 1) := by decide +kernel
theorem dX1_readBlock_15 : decode cX1_readBlock 15 = .ok (.invokevirtual 71, 3) := by decide +kernel
theorem dX1_readBlock_18 : decode cX1_readBlock 18 = .ok (.ireturn, 1) := by decide +kernel
theorem dX1_readBlock_19 : decode cX1_readBlock 19 = .ok (.aload_n 0, 1) := by decide +kernel
theorem dX1_readBlock_20 : decode cX1_readBlock 20 = .ok (.iload_n 3, 1) := by decide +kernel
theorem dX1_readBlock_21 : decode cX1_readBlock 21 = .ok (.iload 4, 2) := by decide +kernel
theorem dX1_readBlock_23 : decode cX1_readBlock 23 = .ok (.invokevirtual 150, 3) := by decide +kernel
theorem dX1_readBlock_26 : decode cX1_readBlock 26 = .ok (.istore 5, 2) := by decide +kernel
theorem dX1_readBlock_28 : decode cX1_readBlock 28 = .ok (.iload 5, 2) := by decide +kernel
theorem dX1_readBlock_30 : decode cX1_readBlock 30 = .ok (.iconst 1, 1) := by decide +kernel
theorem dX1_readBlock_31 : decode cX1_readBlock 31 = .ok (.if_icmp .lt 29, 3) := by decide +kernel
theorem dX1_readBlock_34 : decode cX1_readBlock 34 = .ok (.aload_n 0, 1) := by decide +kernel
theorem dX1_readBlock_35 : decode cX1_readBlock 35 = .ok (.iload_n 3, 1) := by decide +kernel
theorem dX1_readBlock_36 : decode cX1_readBlock 36 = .ok (.iload 5, 2) := by decide +kernel
theorem dX1_readBlock_38 : decode cX1_readBlock 38 = .ok (.invokevirtual 153, 3) := by decide +kernel
theorem dX1_readBlock_41 : decode cX1_readBlock 41 = .ok (.aload_n 0, 1) := by decide +kernel
theorem dX1_readBlock_42 : decode cX1_readBlock 42 = .ok (.getfield 47, 3) := by decide +kernel
theorem dX1_readBlock_45 : decode cX1_readBlock 45 = .ok (.lcmp, 1) := by decide +kernel
theorem dX1_readBlock_46 : decode cX1_readBlock 46 = .ok (.ifCond .ne 14, 3) := by decide +kernel
theorem dX1_readBlock_49 : decode cX1_readBlock 49 = .ok (.iload 4, 2) := by decide +kernel
theorem dX1_readBlock_51 : decode cX1_readBlock 51 = .ok (.iload_n 3, 1) := by decide +kernel
theorem dX1_readBlock_52 : decode cX1_readBlock 52 = .ok (.isub, 1) := by decide +kernel
theorem dX1_readBlock_53 : decode cX1_readBlock 53 = .ok (.iload 5, 2) := by decide +kernel
theorem dX1_readBlock_55 : decode cX1_readBlock 55 = .ok (.isub, 1) := by decide +kernel
theorem dX1_readBlock_56 : decode cX1_readBlock 56 = .ok (.iconst 3, 1) := by decide +kernel
theorem dX1_readBlock_57 : decode cX1_readBlock 57 = .ok (.if_icmp .ge 10, 3) := by decide +kernel
theorem dX1_readBlock_60 : decode cX1_readBlock 60 = .ok (.aload_n 0, 1) := by decide +kernel
theorem dX1_readBlock_61 : decode cX1_readBlock 61 = .ok (.iconst 5, 1) := by decide +kernel
theorem dX1_readBlock_62 : decode cX1_readBlock 62 = .ok (.iload_n 2, 1) := by decide +kernel
theorem dX1_readBlock_63 : decode cX1_readBlock 63 = .ok (.invokevirtual 71, 3) := by decide +kernel
theorem dX1_readBlock_66 : decode cX1_readBlock 66 = .ok (.ireturn, 1) := by decide +kernel
theorem dX1_readBlock_67 : decode cX1_readBlock 67 = .ok (.aload_n 0, 1) := by decide +kernel
theorem dX1_readBlock_68 : decode cX1_readBlock 68 = .ok (.getfield 51, 3) := by decide +kernel
theorem dX1_readBlock_71 : decode cX1_readBlock 71 = .ok (.aload_n 0, 1) := by decide +kernel
theorem dX1_readBlock_72 : decode cX1_readBlock 72 = .ok (.getfield 24, 3) := by decide +kernel
theorem dX1_readBlock_75 : decode cX1_readBlock 75 = .ok (.iload_n 3, 1) := by decide +kernel
theorem dX1_readBlock_76 : decode cX1_readBlock 76 = .ok (.iload 5, 2) := by decide +kernel
theorem dX1_readBlock_78 : decode cX1_readBlock 78 = .ok (.iadd, 1) := by decide +kernel
theorem dX1_readBlock_79 : decode cX1_readBlock 79 = .ok (.iconst 2, 1) := by decide +kernel
theorem dX1_readBlock_80 : decode cX1_readBlock 80 = .ok (.invokevirtual 143, 3) := by decide +kernel
theorem dX1_readBlock_83 : decode cX1_readBlock 83 = .ok (.l2i, 1) := by decide +kernel
theorem dX1_readBlock_84 : decode cX1_readBlock 84 = .ok (.i2s, 1) := by decide +kernel
theorem dX1_readBlock_85 : decode cX1_readBlock 85 = .ok (.i2l, 1) := by decide +kernel
theorem dX1_readBlock_86 : decode cX1_readBlock 86 = .ok (.ladd, 1) := by decide +kernel
theorem dX1_readBlock_87 : decode cX1_readBlock 87 = .ok (.lstore 6, 2) := by decide +kernel
theorem dX1_readBlock_89 : decode cX1_readBlock 89 = .ok (.aload_n 0, 1) := by decide +kernel
theorem dX1_readBlock_90 : decode cX1_readBlock 90 = .ok (.getfield 24, 3) := by decide +kernel
theorem dX1_readBlock_93 : decode cX1_readBlock 93 = .ok (.iload_n 3, 1) := by decide +kernel
theorem dX1_readBlock_94 : decode cX1_readBlock 94 = .ok (.iload 5, 2) := by decide +kernel
theorem dX1_readBlock_96 : decode cX1_readBlock 96 = .ok (.iadd, 1) := by decide +kernel
theorem dX1_readBlock_97 : decode cX1_readBlock 97 = .ok (.iconst 2, 1) := by decide +kernel
theorem dX1_readBlock_98 : decode cX1_readBlock 98 = .ok (.iadd, 1) := by decide +kernel
theorem dX1_readBlock_99 : decode cX1_readBlock 99 = .ok (.invokevirtual 105, 3) := by decide +kernel
theorem dX1_readBlock_102 : decode cX1_readBlock 102 = .ok (.istore 8, 2) := by decide +kernel
theorem dX1_readBlock_104 : decode cX1_readBlock 104 = .ok (.iload_n 1, 1) := by decide +kernel
theorem dX1_readBlock_105 : decode cX1_readBlock 105 = .ok (.sipush 163, 3) := by decide +kernel
theorem dX1_readBlock_108 : decode cX1_readBlock 108 = .ok (.if_icmp .ne 9, 3) := by decide +kernel
theorem dX1_readBlock_111 : decode cX1_readBlock 111 = .ok (.sipush 143, 3) := by decide +kernel
theorem dX1_readBlock_114 : decode cX1_readBlock 114 = .ok (.goto 5, 3) := by decide +kernel
theorem dX1_readBlock_117 : decode cX1_readBlock 117 = .ok (.bipush 14, 2) := by decide +kernel
theorem dX1_readBlock_119 : decode cX1_readBlock 119 = .ok (.istore 9, 2) := by decide +kernel
theorem dX1_readBlock_121 : decode cX1_readBlock 121 = .ok (.lload 6, 2) := by decide +kernel
theorem dX1_readBlock_123 : decode cX1_readBlock 123 = .ok (.lconst 0, 1) := by decide +kernel
theorem dX1_readBlock_124 : decode cX1_readBlock 124 = .ok (.lcmp, 1) := by decide +kernel
theorem dX1_readBlock_125 : decode cX1_readBlock 125 = .ok (.ifCond .lt 22, 3) := by decide +kernel
theorem dX1_readBlock_128 : decode cX1_readBlock 128 = .ok (.lload 6, 2) := by decide +kernel
theorem dX1_readBlock_130 : decode cX1_readBlock 130 = .ok (.ldc2_w 174, 3) := by decide +kernel
theorem dX1_readBlock_133 : decode cX1_readBlock 133 = .ok (.lcmp, 1) := by decide +kernel
theorem dX1_readBlock_134 : decode cX1_readBlock 134 = .ok (.ifCond .gt 13, 3) := by decide +kernel
theorem dX1_readBlock_137 : decode cX1_readBlock 137 = .ok (.iload 8, 2) := by decide +kernel
theorem dX1_readBlock_139 : decode cX1_readBlock 139 = .ok (.iload 9, 2) := by decide +kernel
theorem dX1_readBlock_141 : decode cX1_readBlock 141 = .ok (.iconst (-1), 1) := by decide +kernel
theorem dX1_readBlock_142 : decode cX1_readBlock 142 = .ok (.ixor, 1) := by decide +kernel
theorem dX1_readBlock_143 : decode cX1_readBlock 143 = .ok (.iand, 1) := by decide +kernel
theorem dX1_readBlock_144 : decode cX1_readBlock 144 = .ok (.ifCond .eq 10, 3) := by decide +kernel
theorem dX1_readBlock_147 : decode cX1_readBlock 147 = .ok (.aload_n 0, 1) := by decide +kernel
theorem dX1_readBlock_148 : decode cX1_readBlock 148 = .ok (.iconst 5, 1) := by decide +kernel
theorem dX1_readBlock_149 : decode cX1_readBlock 149 = .ok (.iload_n 2, 1) := by decide +kernel
theorem dX1_readBlock_150 : decode cX1_readBlock 150 = .ok (.invokevirtual 71, 3) := by decide +kernel
theorem dX1_readBlock_153 : decode cX1_readBlock 153 = .ok (.ireturn, 1) := by decide +kernel
theorem dX1_readBlock_154 : decode cX1_readBlock 154 = .ok (.aload_n 0, 1) := by decide +kernel
theorem dX1_readBlock_155 : decode cX1_readBlock 155 = .ok (.iload 8, 2) := by decide +kernel
theorem dX1_readBlock_157 : decode cX1_readBlock 157 = .ok (.iconst 1, 1) := by decide +kernel
theorem dX1_readBlock_158 : decode cX1_readBlock 158 = .ok (.ishr, 1) := by decide +kernel
theorem dX1_readBlock_159 : decode cX1_readBlock 159 = .ok (.iconst 3, 1) := by decide +kernel
theorem dX1_readBlock_160 : decode cX1_readBlock 160 = .ok (.iand, 1) := by decide +kernel
theorem dX1_readBlock_161 : decode cX1_readBlock 161 = .ok (.iload_n 3, 1) := by decide +kernel
theorem dX1_readBlock_162 : decode cX1_readBlock 162 = .ok (.iload 5, 2) := by decide +kernel
theorem dX1_readBlock_164 : decode cX1_readBlock 164 = .ok (.iadd, 1) := by decide +kernel
theorem dX1_readBlock_165 : decode cX1_readBlock 165 = .ok (.iconst 3, 1) := by decide +kernel
theorem dX1_readBlock_166 : decode cX1_readBlock 166 = .ok (.iadd, 1) := by decide +kernel
theorem dX1_readBlock_167 : decode cX1_readBlock 167 = .ok (.iload 4, 2) := by decide +kernel
theorem dX1_readBlock_169 : decode cX1_readBlock 169 = .ok (.invokevirtual 176, 3) := by decide +kernel
theorem dX1_readBlock_172 : decode cX1_readBlock 172 = .ok (.istore 10, 2) := by decide +kernel
theorem dX1_readBlock_174 : decode cX1_readBlock 174 = .ok (.iload 10, 2) := by decide +kernel
theorem dX1_readBlock_176 : decode cX1_readBlock 176 = .ok (.iconst (-1), 1) := by decide +kernel
theorem dX1_readBlock_177 : decode cX1_readBlock 177 = .ok (.if_icmp .ne 10, 3) := by decide +kernel
theorem dX1_readBlock_180 : decode cX1_readBlock 180 = .ok (.aload_n 0, 1) := by decide +kernel
theorem dX1_readBlock_181 : decode cX1_readBlock 181 = .ok (.iconst 5, 1) := by decide +kernel
theorem dX1_readBlock_182 : decode cX1_readBlock 182 = .ok (.iload_n 2, 1) := by decide +kernel
theorem dX1_readBlock_183 : decode cX1_readBlock 183 = .ok (.invokevirtual 71, 3) := by decide +kernel
theorem dX1_readBlock_186 : decode cX1_readBlock 186 = .ok (.ireturn, 1) := by decide +kernel
theorem dX1_readBlock_187 : decode cX1_readBlock 187 = .ok (.aload_n 0, 1) := by decide +kernel
theorem dX1_readBlock_188 : decode cX1_readBlock 188 = .ok (.getfield 28, 3) := by decide +kernel
theorem dX1_readBlock_191 : decode cX1_readBlock 191 = .ok (.iload 10, 2) := by decide +kernel
theorem dX1_readBlock_193 : decode cX1_readBlock 193 = .ok (.iload 4, 2) := by decide +kernel
theorem dX1_readBlock_195 : decode cX1_readBlock 195 = .ok (.aload_n 0, 1) := by decide +kernel
theorem dX1_readBlock_196 : decode cX1_readBlock 196 = .ok (.getfield 180, 3) := by decide +kernel
theorem dX1_readBlock_199 : decode cX1_readBlock 199 = .ok (.isub, 1) := by decide +kernel
theorem dX1_readBlock_200 : decode cX1_readBlock 200 = .ok (.invokevirtual 183, 3) := by decide +kernel
theorem dX1_readBlock_203 : decode cX1_readBlock 203 = .ok (.ifCond .ne 11, 3) := by decide +kernel
theorem dX1_readBlock_206 : decode cX1_readBlock 206 = .ok (.aload_n 0, 1) := by decide +kernel
theorem dX1_readBlock_207 : decode cX1_readBlock 207 = .ok (.bipush 6, 2) := by decide +kernel
theorem dX1_readBlock_209 : decode cX1_readBlock 209 = .ok (.iload_n 2, 1) := by decide +kernel
theorem dX1_readBlock_210 : decode cX1_readBlock 210 = .ok (.invokevirtual 71, 3) := by decide +kernel
theorem dX1_readBlock_213 : decode cX1_readBlock 213 = .ok (.ireturn, 1) := by decide +kernel
theorem dX1_readBlock_214 : decode cX1_readBlock 214 = .ok (.aload_n 0, 1) := by decide +kernel
theorem dX1_readBlock_215 : decode cX1_readBlock 215 = .ok (.iload 10, 2) := by decide +kernel
theorem dX1_readBlock_217 : decode cX1_readBlock 217 = .ok (.lload 6, 2) := by decide +kernel
theorem dX1_readBlock_219 : decode cX1_readBlock 219 = .ok (.invokevirtual 188, 3) := by decide +kernel
theorem dX1_readBlock_222 : decode cX1_readBlock 222 = .ok (.aload_n 0, 1) := by decide +kernel
theorem dX1_readBlock_223 : decode cX1_readBlock 223 = .ok (.dup, 1) := by decide +kernel
theorem dX1_readBlock_224 : decode cX1_readBlock 224 = .ok (.getfield 42, 3) := by decide +kernel
theorem dX1_readBlock_227 : decode cX1_readBlock 227 = .ok (.iconst 1, 1) := by decide +kernel
theorem dX1_readBlock_228 : decode cX1_readBlock 228 = .ok (.iadd, 1) := by decide +kernel
theorem dX1_readBlock_229 : decode cX1_readBlock 229 = .ok (.putfield 42, 3) := by decide +kernel
theorem dX1_readBlock_232 : decode cX1_readBlock 232 = .ok (.iload 4, 2) := by decide +kernel
theorem dX1_readBlock_234 : decode cX1_readBlock 234 = .ok (.ireturn, 1) := by decide +kernel
set_option maxRecDepth 20000 in
theorem ggX1_takePackets_X8_addPart : GoodIn wsX1_takePackets wsX8_addPart := goodIn_r _ [11, 12, 13, 14, 10, 15, 16, 17, 18, 19, 20, 21, 22, 23, 24, 25, 26, 27, 55, 56, 57, 58] (by decide +kernel) (by decide +kernel)
set_option maxRecDepth 20000 in
theorem gX1_takePackets_X8_addPart : GoodIn wsX1_takePackets (wsV RX1 195 RX8 yX8_addPart wsX8_addPart) := goodIn_app (goodIn_of _ (by decide +kernel)) ggX1_takePackets_X8_addPart
set_option maxRecDepth 20000 in
theorem ggX1_takePackets_X4_endPacket : GoodIn wsX1_takePackets wsX4_endPacket := goodIn_r _ [32, 33, 34, 35, 36, 37, 51, 52, 53, 54, 55, 56, 57, 58] (by decide +kernel) (by decide +kernel)
set_option maxRecDepth 20000 in
theorem gX1_takePackets_X4_endPacket : GoodIn wsX1_takePackets (wsV RX1 199 RX4 yX4_endPacket wsX4_endPacket) := goodIn_app (goodIn_of _ (by decide +kernel)) ggX1_takePackets_X4_endPacket
theorem dX1_takePackets_0 : decode cX1_takePackets 0 = .ok (.aload_n 0, 1) := by decide +kernel
theorem dX1_takePackets_1 : decode cX1_takePackets 1 = .ok (.getfield 180, 3) := by decide +kernel
theorem dX1_takePackets_4 : decode cX1_takePackets 4 = .ok (.istore 4, 2) := by decide +kernel
theorem dX1_takePackets_6 : decode cX1_takePackets 6 = .ok (.iconst 0, 1) := by decide +kernel
theorem dX1_takePackets_7 : decode cX1_takePackets 7 = .ok (.istore 5, 2) := by decide +kernel
theorem dX1_takePackets_9 : decode cX1_takePackets 9 = .ok (.iload 5, 2) := by decide +kernel
theorem dX1_takePackets_11 : decode cX1_takePackets 11 = .ok (.iload_n 1, 1) := by decide +kernel
theorem dX1_takePackets_12 : decode cX1_takePackets 12 = .ok (.if_icmp .ge 73, 3) := by decide +kernel
theorem dX1_takePackets_15 : decode cX1_takePackets 15 = .ok (.iload 5, 2) := by decide +kernel
theorem dX1_takePackets_17 : decode cX1_takePackets 17 = .ok (.aload_n 0, 1) := by decide +kernel
theorem dX1_takePackets_18 : decode cX1_takePackets 18 = .ok (.getfield 13, 3) := by decide +kernel
theorem dX1_takePackets_21 : decode cX1_takePackets 21 = .ok (.arraylength, 1) := by decide +kernel
theorem dX1_takePackets_22 : decode cX1_takePackets 22 = .ok (.if_icmp .ge 63, 3) := by decide +kernel
theorem dX1_takePackets_25 : decode cX1_takePackets 25 = .ok (.aload_n 0, 1) := by decide +kernel
theorem dX1_takePackets_26 : decode cX1_takePackets 26 = .ok (.getfield 28, 3) := by decide +kernel
theorem dX1_takePackets_29 : decode cX1_takePackets 29 = .ok (.getfield 192, 3) := by decide +kernel
theorem dX1_takePackets_32 : decode cX1_takePackets 32 = .ok (.aload_n 0, 1) := by decide +kernel
theorem dX1_takePackets_33 : decode cX1_takePackets 33 = .ok (.getfield 24, 3) := by decide +kernel
theorem dX1_takePackets_36 : decode cX1_takePackets 36 = .ok (.iload 4, 2) := by decide +kernel
theorem dX1_takePackets_38 : decode cX1_takePackets 38 = .ok (.aload_n 0, 1) := by decide +kernel
theorem dX1_takePackets_39 : decode cX1_takePackets 39 = .ok (.getfield 13, 3) := by decide +kernel
theorem dX1_takePackets_42 : decode cX1_takePackets 42 = .ok (.iload 5, 2) := by decide +kernel
theorem dX1_takePackets_44 : decode cX1_takePackets 44 = .ok (.iaload, 1) := by decide +kernel
theorem dX1_takePackets_45 : decode cX1_takePackets 45 = .ok (.invokevirtual 195, 3) := by decide +kernel
theorem dX1_takePackets_48 : decode cX1_takePackets 48 = .ok (.aload_n 0, 1) := by decide +kernel
theorem dX1_takePackets_49 : decode cX1_takePackets 49 = .ok (.getfield 28, 3) := by decide +kernel
theorem dX1_takePackets_52 : decode cX1_takePackets 52 = .ok (.iload 5, 2) := by decide +kernel
theorem dX1_takePackets_54 : decode cX1_takePackets 54 = .ok (.ifCond .ne 7, 3) := by decide +kernel
theorem dX1_takePackets_57 : decode cX1_takePackets 57 = .ok (.lload_n 2, 1) := by decide +kernel
theorem dX1_takePackets_58 : decode cX1_takePackets 58 = .ok (.goto 6, 3) := by decide +kernel
theorem dX1_takePackets_61 : decode cX1_takePackets 61 = .ok (.ldc2_w 45, 3) := by decide +kernel
theorem dX1_takePackets_64 : decode cX1_takePackets 64 = .ok (.invokevirtual 199, 3) := by decide +kernel
theorem dX1_takePackets_67 : decode cX1_takePackets 67 = .ok (.iload 4, 2) := by decide +kernel
theorem dX1_takePackets_69 : decode cX1_takePackets 69 = .ok (.aload_n 0, 1) := by decide +kernel
theorem dX1_takePackets_70 : decode cX1_takePackets 70 = .ok (.getfield 13, 3) := by decide +kernel
theorem dX1_takePackets_73 : decode cX1_takePackets 73 = .ok (.iload 5, 2) := by decide +kernel
theorem dX1_takePackets_75 : decode cX1_takePackets 75 = .ok (.iaload, 1) := by decide +kernel
theorem dX1_takePackets_76 : decode cX1_takePackets 76 = .ok (.iadd, 1) := by decide +kernel
theorem dX1_takePackets_77 : decode cX1_takePackets 77 = .ok (.istore 4, 2) := by decide +kernel
theorem dX1_takePackets_79 : decode cX1_takePackets 79 = .ok (.iinc 5 1, 3) := by decide +kernel
theorem dX1_takePackets_82 : decode cX1_takePackets 82 = .ok (.goto (-73), 3) := by decide +kernel
theorem dX1_takePackets_85 : decode cX1_takePackets 85 = .ok (.return_, 1) := by decide +kernel
set_option maxRecDepth 20000 in
theorem ggX1_readLacing_X8_at : GoodIn wsX1_readLacing wsX8_at := goodIn_r _ [8, 9, 10, 57, 58, 59, 60] (by decide +kernel) (by decide +kernel)
set_option maxRecDepth 20000 in
theorem gX1_readLacing_X8_at : GoodIn wsX1_readLacing (wsV RX1 105 RX8 yX8_at wsX8_at) := goodIn_app (goodIn_of _ (by decide +kernel)) ggX1_readLacing_X8_at
set_option maxRecDepth 20000 in
theorem ggX1_readLacing_X1_shareAlike : GoodIn wsX1_readLacing wsX1_shareAlike := goodIn_r _ [15, 2, 44, 45, 46, 47, 48, 49, 50, 51, 52, 53, 54, 55, 56] (by decide +kernel) (by decide +kernel)
set_option maxRecDepth 20000 in
theorem gX1_readLacing_X1_shareAlike : GoodIn wsX1_readLacing (wsV RX1 203 RX1 yX1_shareAlike wsX1_shareAlike) := goodIn_app (goodIn_of _ (by decide +kernel)) ggX1_readLacing_X1_shareAlike
set_option maxRecDepth 20000 in
theorem ggX1_readLacing_X1_readSummedSize : GoodIn wsX1_readLacing wsX1_readSummedSize := goodIn_r _ [19, 1, 3, 20, 4, 5, 6, 7, 8, 9, 10, 44, 45, 46, 47, 48, 49, 50, 51, 52, 53, 54, 55, 56, 57, 58, 59, 60] (by decide +kernel) (by decide +kernel)
set_option maxRecDepth 20000 in
theorem gX1_readLacing_X1_readSummedSize : GoodIn wsX1_readLacing (wsV RX1 206 RX1 yX1_readSummedSize wsX1_readSummedSize) := goodIn_app (goodIn_of _ (by decide +kernel)) ggX1_readLacing_X1_readSummedSize
set_option maxRecDepth 20000 in
theorem ggX1_readLacing_X1_readSizeOrDifference : GoodIn wsX1_readLacing wsX1_readSizeOrDifference := goodIn_r _ [24, 1, 20, 2, 25, 26, 27, 14, 28, 3, 4, 5, 6, 7, 8, 9, 10, 29, 30, 31, 32, 33, 34, 35, 36, 37, 38, 39, 40, 41, 42, 43, 44, 45, 46, 47, 48, 49, 50, 51, 52, 53, 54, 55, 56, 57, 58, 59, 60] (by decide +kernel) (by decide +kernel)
set_option maxRecDepth 20000 in
theorem gX1_readLacing_X1_readSizeOrDifference : GoodIn wsX1_readLacing (wsV RX1 209 RX1 yX1_readSizeOrDifference wsX1_readSizeOrDifference) := goodIn_app (goodIn_of _ (by decide +kernel)) ggX1_readLacing_X1_readSizeOrDifference
theorem dX1_readLacing_0 : decode cX1_readLacing 0 = .ok (.aload_n 0, 1) := by decide +kernel
theorem dX1_readLacing_1 : decode cX1_readLacing 1 = .ok (.iload_n 2, 1) := by decide +kernel
theorem dX1_readLacing_2 : decode cX1_readLacing 2 = .ok (.putfield 180, 3) := by decide +kernel
theorem dX1_readLacing_5 : decode cX1_readLacing 5 = .ok (.iload_n 1, 1) := by decide +kernel
theorem dX1_readLacing_6 : decode cX1_readLacing 6 = .ok (.ifCond .ne 14, 3) := by decide +kernel
theorem dX1_readLacing_9 : decode cX1_readLacing 9 = .ok (.aload_n 0, 1) := by decide +kernel
theorem dX1_readLacing_10 : decode cX1_readLacing 10 = .ok (.getfield 13, 3) := by decide +kernel
theorem dX1_readLacing_13 : decode cX1_readLacing 13 = .ok (.iconst 0, 1) := by decide +kernel
theorem dX1_readLacing_14 : decode cX1_readLacing 14 = .ok (.iload_n 3, 1) := by decide +kernel
theorem dX1_readLacing_15 : decode cX1_readLacing 15 = .ok (.iload_n 2, 1) := by decide +kernel
theorem dX1_readLacing_16 : decode cX1_readLacing 16 = .ok (.isub, 1) := by decide +kernel
theorem dX1_readLacing_17 : decode cX1_readLacing 17 = .ok (.iastore, 1) := by decide +kernel
theorem dX1_readLacing_18 : decode cX1_readLacing 18 = .ok (.iconst 1, 1) := by decide +kernel
theorem dX1_readLacing_19 : decode cX1_readLacing 19 = .ok (.ireturn, 1) := by decide +kernel
theorem dX1_readLacing_20 : decode cX1_readLacing 20 = .ok (.iload_n 2, 1) := by decide +kernel
theorem dX1_readLacing_21 : decode cX1_readLacing 21 = .ok (.iload_n 3, 1) := by decide +kernel
theorem dX1_readLacing_22 : decode cX1_readLacing 22 = .ok (.if_icmp .lt 5, 3) := by decide +kernel
theorem dX1_readLacing_25 : decode cX1_readLacing 25 = .ok (.iconst (-1), 1) := by decide +kernel
theorem dX1_readLacing_26 : decode cX1_readLacing 26 = .ok (.ireturn, 1) := by decide +kernel
theorem dX1_readLacing_27 : decode cX1_readLacing 27 = .ok (.aload_n 0, 1) := by decide +kernel
theorem dX1_readLacing_28 : decode cX1_readLacing 28 = .ok (.getfield 24, 3) := by decide +kernel
theorem dX1_readLacing_31 : decode cX1_readLacing 31 = .ok (.iload_n 2, 1) := by decide +kernel
theorem dX1_readLacing_32 : decode cX1_readLacing 32 = .ok (.invokevirtual 105, 3) := by decide +kernel
theorem dX1_readLacing_35 : decode cX1_readLacing 35 = .ok (.iconst 1, 1) := by decide +kernel
theorem dX1_readLacing_36 : decode cX1_readLacing 36 = .ok (.iadd, 1) := by decide +kernel
theorem dX1_readLacing_37 : decode cX1_readLacing 37 = .ok (.istore 4, 2) := by decide +kernel
theorem dX1_readLacing_39 : decode cX1_readLacing 39 = .ok (.iload 4, 2) := by decide +kernel
theorem dX1_readLacing_41 : decode cX1_readLacing 41 = .ok (.iconst 1, 1) := by decide +kernel
theorem dX1_readLacing_42 : decode cX1_readLacing 42 = .ok (.if_icmp .lt 13, 3) := by decide +kernel
theorem dX1_readLacing_45 : decode cX1_readLacing 45 = .ok (.iload 4, 2) := by decide +kernel
theorem dX1_readLacing_47 : decode cX1_readLacing 47 = .ok (.aload_n 0, 1) := by decide +kernel
theorem dX1_readLacing_48 : decode cX1_readLacing 48 = .ok (.getfield 13, 3) := by decide +kernel
theorem dX1_readLacing_51 : decode cX1_readLacing 51 = .ok (.arraylength, 1) := by decide +kernel
theorem dX1_readLacing_52 : decode cX1_readLacing 52 = .ok (.if_icmp .le 5, 3) := by decide +kernel
theorem dX1_readLacing_55 : decode cX1_readLacing 55 = .ok (.iconst (-1), 1) := by decide +kernel
theorem dX1_readLacing_56 : decode cX1_readLacing 56 = .ok (.ireturn, 1) := by decide +kernel
theorem dX1_readLacing_57 : decode cX1_readLacing 57 = .ok (.aload_n 0, 1) := by decide +kernel
theorem dX1_readLacing_58 : decode cX1_readLacing 58 = .ok (.iload_n 2, 1) := by decide +kernel
theorem dX1_readLacing_59 : decode cX1_readLacing 59 = .ok (.iconst 1, 1) := by decide +kernel
theorem dX1_readLacing_60 : decode cX1_readLacing 60 = .ok (.iadd, 1) := by decide +kernel
theorem dX1_readLacing_61 : decode cX1_readLacing 61 = .ok (.putfield 180, 3) := by decide +kernel
theorem dX1_readLacing_64 : decode cX1_readLacing 64 = .ok (.iload_n 1, 1) := by decide +kernel
theorem dX1_readLacing_65 : decode cX1_readLacing 65 = .ok (.iconst 2, 1) := by decide +kernel
theorem dX1_readLacing_66 : decode cX1_readLacing 66 = .ok (.if_icmp .ne 16, 3) := by decide +kernel
theorem dX1_readLacing_69 : decode cX1_readLacing 69 = .ok (.aload_n 0, 1) := by decide +kernel
theorem dX1_readLacing_70 : decode cX1_readLacing 70 = .ok (.iload 4, 2) := by decide +kernel
theorem dX1_readLacing_72 : decode cX1_readLacing 72 = .ok (.iload_n 3, 1) := by decide +kernel
theorem dX1_readLacing_73 : decode cX1_readLacing 73 = .ok (.aload_n 0, 1) := by decide +kernel
theorem dX1_readLacing_74 : decode cX1_readLacing 74 = .ok (.getfield 180, 3) := by decide +kernel
theorem dX1_readLacing_77 : decode cX1_readLacing 77 = .ok (.isub, 1) := by decide +kernel
theorem dX1_readLacing_78 : decode cX1_readLacing 78 = .ok (.invokevirtual 203, 3) := by decide +kernel
theorem dX1_readLacing_81 : decode cX1_readLacing 81 = .ok (.ireturn, 1) := by decide +kernel
theorem dX1_readLacing_82 : decode cX1_readLacing 82 = .ok (.lconst 0, 1) := by decide +kernel
theorem dX1_readLacing_83 : decode cX1_readLacing 83 = .ok (.lstore 5, 2) := by decide +kernel
theorem dX1_readLacing_85 : decode cX1_readLacing 85 = .ok (.iconst 0, 1) := by decide +kernel
theorem dX1_readLacing_86 : decode cX1_readLacing 86 = .ok (.istore 7, 2) := by decide +kernel
theorem dX1_readLacing_88 : decode cX1_readLacing 88 = .ok (.iload 7, 2) := by decide +kernel
theorem dX1_readLacing_90 : decode cX1_readLacing 90 = .ok (.iload 4, 2) := by decide +kernel
theorem dX1_readLacing_92 : decode cX1_readLacing 92 = .ok (.iconst 1, 1) := by decide +kernel
theorem dX1_readLacing_93 : decode cX1_readLacing 93 = .ok (.isub, 1) := by decide +kernel
theorem dX1_readLacing_94 : decode cX1_readLacing 94 = .ok (.if_icmp .ge 67, 3) := by decide +kernel
theorem dX1_readLacing_97 : decode cX1_readLacing 97 = .ok (.iload_n 1, 1) := by decide +kernel
theorem dX1_readLacing_98 : decode cX1_readLacing 98 = .ok (.iconst 1, 1) := by decide +kernel
theorem dX1_readLacing_99 : decode cX1_readLacing 99 = .ok (.if_icmp .ne 11, 3) := by decide +kernel
theorem dX1_readLacing_102 : decode cX1_readLacing 102 = .ok (.aload_n 0, 1) := by decide +kernel
theorem dX1_readLacing_103 : decode cX1_readLacing 103 = .ok (.iload_n 3, 1) := by decide +kernel
theorem dX1_readLacing_104 : decode cX1_readLacing 104 = .ok (.invokevirtual 206, 3) := by decide +kernel
theorem dX1_readLacing_107 : decode cX1_readLacing 107 = .ok (.goto 10, 3) := by decide +kernel
theorem dX1_readLacing_110 : decode cX1_readLacing 110 = .ok (.aload_n 0, 1) := by decide +kernel
theorem dX1_readLacing_111 : decode cX1_readLacing 111 = .ok (.iload 7, 2) := by decide +kernel
theorem dX1_readLacing_113 : decode cX1_readLacing 113 = .ok (.iload_n 3, 1) := by decide +kernel
theorem dX1_readLacing_114 : decode cX1_readLacing 114 = .ok (.invokevirtual 209, 3) := by decide +kernel
theorem dX1_readLacing_117 : decode cX1_readLacing 117 = .ok (.lstore 8, 2) := by decide +kernel
theorem dX1_readLacing_119 : decode cX1_readLacing 119 = .ok (.lload 8, 2) := by decide +kernel
theorem dX1_readLacing_121 : decode cX1_readLacing 121 = .ok (.lconst 0, 1) := by decide +kernel
theorem dX1_readLacing_122 : decode cX1_readLacing 122 = .ok (.lcmp, 1) := by decide +kernel
theorem dX1_readLacing_123 : decode cX1_readLacing 123 = .ok (.ifCond .lt 13, 3) := by decide +kernel
theorem dX1_readLacing_126 : decode cX1_readLacing 126 = .ok (.lload 8, 2) := by decide +kernel
theorem dX1_readLacing_128 : decode cX1_readLacing 128 = .ok (.iload_n 3, 1) := by decide +kernel
theorem dX1_readLacing_129 : decode cX1_readLacing 129 = .ok (.iload_n 2, 1) := by decide +kernel
theorem dX1_readLacing_130 : decode cX1_readLacing 130 = .ok (.isub, 1) := by decide +kernel
theorem dX1_readLacing_131 : decode cX1_readLacing 131 = .ok (.i2l, 1) := by decide +kernel
theorem dX1_readLacing_132 : decode cX1_readLacing 132 = .ok (.lcmp, 1) := by decide +kernel
theorem dX1_readLacing_133 : decode cX1_readLacing 133 = .ok (.ifCond .le 5, 3) := by decide +kernel
theorem dX1_readLacing_136 : decode cX1_readLacing 136 = .ok (.iconst (-1), 1) := by decide +kernel
theorem dX1_readLacing_137 : decode cX1_readLacing 137 = .ok (.ireturn, 1) := by decide +kernel
theorem dX1_readLacing_138 : decode cX1_readLacing 138 = .ok (.aload_n 0, 1) := by decide +kernel
theorem dX1_readLacing_139 : decode cX1_readLacing 139 = .ok (.getfield 13, 3) := by decide +kernel
theorem dX1_readLacing_142 : decode cX1_readLacing 142 = .ok (.iload 7, 2) := by decide +kernel
theorem dX1_readLacing_144 : decode cX1_readLacing 144 = .ok (.lload 8, 2) := by decide +kernel
theorem dX1_readLacing_146 : decode cX1_readLacing 146 = .ok (.l2i, 1) := by decide +kernel
theorem dX1_readLacing_147 : decode cX1_readLacing 147 = .ok (.iastore, 1) := by decide +kernel
theorem dX1_readLacing_148 : decode cX1_readLacing 148 = .ok (.lload 5, 2) := by decide +kernel
theorem dX1_readLacing_150 : decode cX1_readLacing 150 = .ok (.lload 8, 2) := by decide +kernel
theorem dX1_readLacing_152 : decode cX1_readLacing 152 = .ok (.ladd, 1) := by decide +kernel
theorem dX1_readLacing_153 : decode cX1_readLacing 153 = .ok (.lstore 5, 2) := by decide +kernel
theorem dX1_readLacing_155 : decode cX1_readLacing 155 = .ok (.iinc 7 1, 3) := by decide +kernel
theorem dX1_readLacing_158 : decode cX1_readLacing 158 = .ok (.goto (-70), 3) := by decide +kernel
theorem dX1_readLacing_161 : decode cX1_readLacing 161 = .ok (.lload 5, 2) := by decide +kernel
theorem dX1_readLacing_163 : decode cX1_readLacing 163 = .ok (.iload_n 3, 1) := by decide +kernel
theorem dX1_readLacing_164 : decode cX1_readLacing 164 = .ok (.aload_n 0, 1) := by decide +kernel
theorem dX1_readLacing_165 : decode cX1_readLacing 165 = .ok (.getfield 180, 3) := by decide +kernel
theorem dX1_readLacing_168 : decode cX1_readLacing 168 = .ok (.isub, 1) := by decide +kernel
theorem dX1_readLacing_169 : decode cX1_readLacing 169 = .ok (.i2l, 1) := by decide +kernel
theorem dX1_readLacing_170 : decode cX1_readLacing 170 = .ok (.lcmp, 1) := by decide +kernel
theorem dX1_readLacing_171 : decode cX1_readLacing 171 = .ok (.ifCond .le 5, 3) := by decide +kernel
theorem dX1_readLacing_174 : decode cX1_readLacing 174 = .ok (.iconst (-1), 1) := by decide +kernel
theorem dX1_readLacing_175 : decode cX1_readLacing 175 = .ok (.ireturn, 1) := by decide +kernel
theorem dX1_readLacing_176 : decode cX1_readLacing 176 = .ok (.aload_n 0, 1) := by decide +kernel
theorem dX1_readLacing_177 : decode cX1_readLacing 177 = .ok (.getfield 13, 3) := by decide +kernel
theorem dX1_readLacing_180 : decode cX1_readLacing 180 = .ok (.iload 4, 2) := by decide +kernel
theorem dX1_readLacing_182 : decode cX1_readLacing 182 = .ok (.iconst 1, 1) := by decide +kernel
theorem dX1_readLacing_183 : decode cX1_readLacing 183 = .ok (.isub, 1) := by decide +kernel
theorem dX1_readLacing_184 : decode cX1_readLacing 184 = .ok (.iload_n 3, 1) := by decide +kernel
theorem dX1_readLacing_185 : decode cX1_readLacing 185 = .ok (.aload_n 0, 1) := by decide +kernel
theorem dX1_readLacing_186 : decode cX1_readLacing 186 = .ok (.getfield 180, 3) := by decide +kernel
theorem dX1_readLacing_189 : decode cX1_readLacing 189 = .ok (.isub, 1) := by decide +kernel
theorem dX1_readLacing_190 : decode cX1_readLacing 190 = .ok (.lload 5, 2) := by decide +kernel
theorem dX1_readLacing_192 : decode cX1_readLacing 192 = .ok (.l2i, 1) := by decide +kernel
theorem dX1_readLacing_193 : decode cX1_readLacing 193 = .ok (.isub, 1) := by decide +kernel
theorem dX1_readLacing_194 : decode cX1_readLacing 194 = .ok (.iastore, 1) := by decide +kernel
theorem dX1_readLacing_195 : decode cX1_readLacing 195 = .ok (.iload 4, 2) := by decide +kernel
theorem dX1_readLacing_197 : decode cX1_readLacing 197 = .ok (.ireturn, 1) := by decide +kernel
theorem dX1_shareAlike_0 : decode cX1_shareAlike 0 = .ok (.iload_n 1, 1) := by decide +kernel
theorem dX1_shareAlike_1 : decode cX1_shareAlike 1 = .ok (.iconst 1, 1) := by decide +kernel
theorem dX1_shareAlike_2 : decode cX1_shareAlike 2 = .ok (.if_icmp .lt 9, 3) := by decide +kernel
theorem dX1_shareAlike_5 : decode cX1_shareAlike 5 = .ok (.iload_n 2, 1) := by decide +kernel
theorem dX1_shareAlike_6 : decode cX1_shareAlike 6 = .ok (.iload_n 1, 1) := by decide +kernel
theorem dX1_shareAlike_7 : decode cX1_shareAlike 7 = .ok (.irem, 1) := by decide +kernel
theorem dX1_shareAlike_8 : decode cX1_shareAlike 8 = .ok (.ifCond .eq 5, 3) := by decide +kernel
theorem dX1_shareAlike_11 : decode cX1_shareAlike 11 = .ok (.iconst (-1), 1) := by decide +kernel
theorem dX1_shareAlike_12 : decode cX1_shareAlike 12 = .ok (.ireturn, 1) := by decide +kernel
theorem dX1_shareAlike_13 : decode cX1_shareAlike 13 = .ok (.iconst 0, 1) := by decide +kernel
theorem dX1_shareAlike_14 : decode cX1_shareAlike 14 = .ok (.istore_n 3, 1) := by decide +kernel
theorem dX1_shareAlike_15 : decode cX1_shareAlike 15 = .ok (.iload_n 3, 1) := by decide +kernel
theorem dX1_shareAlike_16 : decode cX1_shareAlike 16 = .ok (.iload_n 1, 1) := by decide +kernel
theorem dX1_shareAlike_17 : decode cX1_shareAlike 17 = .ok (.if_icmp .ge 27, 3) := by decide +kernel
theorem dX1_shareAlike_20 : decode cX1_shareAlike 20 = .ok (.iload_n 3, 1) := by decide +kernel
theorem dX1_shareAlike_21 : decode cX1_shareAlike 21 = .ok (.aload_n 0, 1) := by decide +kernel
theorem dX1_shareAlike_22 : decode cX1_shareAlike 22 = .ok (.getfield 13, 3) := by decide +kernel
theorem dX1_shareAlike_25 : decode cX1_shareAlike 25 = .ok (.arraylength, 1) := by decide +kernel
theorem dX1_shareAlike_26 : decode cX1_shareAlike 26 = .ok (.if_icmp .ge 18, 3) := by decide +kernel
theorem dX1_shareAlike_29 : decode cX1_shareAlike 29 = .ok (.aload_n 0, 1) := by decide +kernel
theorem dX1_shareAlike_30 : decode cX1_shareAlike 30 = .ok (.getfield 13, 3) := by decide +kernel
theorem dX1_shareAlike_33 : decode cX1_shareAlike 33 = .ok (.iload_n 3, 1) := by decide +kernel
theorem dX1_shareAlike_34 : decode cX1_shareAlike 34 = .ok (.iload_n 2, 1) := by decide +kernel
theorem dX1_shareAlike_35 : decode cX1_shareAlike 35 = .ok (.iload_n 1, 1) := by decide +kernel
theorem dX1_shareAlike_36 : decode cX1_shareAlike 36 = .ok (.idiv, 1) := by decide +kernel
theorem dX1_shareAlike_37 : decode cX1_shareAlike 37 = .ok (.iastore, 1) := by decide +kernel
theorem dX1_shareAlike_38 : decode cX1_shareAlike 38 = .ok (.iinc 3 1, 3) := by decide +kernel
theorem dX1_shareAlike_41 : decode cX1_shareAlike 41 = .ok (.goto (-26), 3) := by decide +kernel
theorem dX1_shareAlike_44 : decode cX1_shareAlike 44 = .ok (.iload_n 1, 1) := by decide +kernel
theorem dX1_shareAlike_45 : decode cX1_shareAlike 45 = .ok (.ireturn, 1) := by decide +kernel
set_option maxRecDepth 20000 in
theorem ggX1_readSummedSize_X8_at : GoodIn wsX1_readSummedSize wsX8_at := goodIn_r _ [8, 9, 10, 24, 25, 26, 27] (by decide +kernel) (by decide +kernel)
set_option maxRecDepth 20000 in
theorem gX1_readSummedSize_X8_at : GoodIn wsX1_readSummedSize (wsV RX1 105 RX8 yX8_at wsX8_at) := goodIn_app (goodIn_of _ (by decide +kernel)) ggX1_readSummedSize_X8_at
theorem dX1_readSummedSize_0 : decode cX1_readSummedSize 0 = .ok (.lconst 0, 1) := by decide +kernel
theorem dX1_readSummedSize_1 : decode cX1_readSummedSize 1 = .ok (.lstore_n 2, 1) := by decide +kernel
theorem dX1_readSummedSize_2 : decode cX1_readSummedSize 2 = .ok (.aload_n 0, 1) := by decide +kernel
theorem dX1_readSummedSize_3 : decode cX1_readSummedSize 3 = .ok (.getfield 180, 3) := by decide +kernel
theorem dX1_readSummedSize_6 : decode cX1_readSummedSize 6 = .ok (.istore 4, 2) := by decide +kernel
theorem dX1_readSummedSize_8 : decode cX1_readSummedSize 8 = .ok (.iload 4, 2) := by decide +kernel
theorem dX1_readSummedSize_10 : decode cX1_readSummedSize 10 = .ok (.iload_n 1, 1) := by decide +kernel
theorem dX1_readSummedSize_11 : decode cX1_readSummedSize 11 = .ok (.if_icmp .ge 47, 3) := by decide +kernel
theorem dX1_readSummedSize_14 : decode cX1_readSummedSize 14 = .ok (.lload_n 2, 1) := by decide +kernel
theorem dX1_readSummedSize_15 : decode cX1_readSummedSize 15 = .ok (.aload_n 0, 1) := by decide +kernel
theorem dX1_readSummedSize_16 : decode cX1_readSummedSize 16 = .ok (.getfield 24, 3) := by decide +kernel
theorem dX1_readSummedSize_19 : decode cX1_readSummedSize 19 = .ok (.iload 4, 2) := by decide +kernel
theorem dX1_readSummedSize_21 : decode cX1_readSummedSize 21 = .ok (.invokevirtual 105, 3) := by decide +kernel
theorem dX1_readSummedSize_24 : decode cX1_readSummedSize 24 = .ok (.i2l, 1) := by decide +kernel
theorem dX1_readSummedSize_25 : decode cX1_readSummedSize 25 = .ok (.ladd, 1) := by decide +kernel
theorem dX1_readSummedSize_26 : decode cX1_readSummedSize 26 = .ok (.lstore_n 2, 1) := by decide +kernel
theorem dX1_readSummedSize_27 : decode cX1_readSummedSize 27 = .ok (.aload_n 0, 1) := by decide +kernel
theorem dX1_readSummedSize_28 : decode cX1_readSummedSize 28 = .ok (.getfield 24, 3) := by decide +kernel
theorem dX1_readSummedSize_31 : decode cX1_readSummedSize 31 = .ok (.iload 4, 2) := by decide +kernel
theorem dX1_readSummedSize_33 : decode cX1_readSummedSize 33 = .ok (.invokevirtual 105, 3) := by decide +kernel
theorem dX1_readSummedSize_36 : decode cX1_readSummedSize 36 = .ok (.sipush 255, 3) := by decide +kernel
theorem dX1_readSummedSize_39 : decode cX1_readSummedSize 39 = .ok (.if_icmp .ge 13, 3) := by decide +kernel
theorem dX1_readSummedSize_42 : decode cX1_readSummedSize 42 = .ok (.aload_n 0, 1) := by decide +kernel
theorem dX1_readSummedSize_43 : decode cX1_readSummedSize 43 = .ok (.iload 4, 2) := by decide +kernel
theorem dX1_readSummedSize_45 : decode cX1_readSummedSize 45 = .ok (.iconst 1, 1) := by decide +kernel
theorem dX1_readSummedSize_46 : decode cX1_readSummedSize 46 = .ok (.iadd, 1) := by decide +kernel
theorem dX1_readSummedSize_47 : decode cX1_readSummedSize 47 = .ok (.putfield 180, 3) := by decide +kernel
theorem dX1_readSummedSize_50 : decode cX1_readSummedSize 50 = .ok (.lload_n 2, 1) := by decide +kernel
theorem dX1_readSummedSize_51 : decode cX1_readSummedSize 51 = .ok (.lreturn, 1) := by decide +kernel
theorem dX1_readSummedSize_52 : decode cX1_readSummedSize 52 = .ok (.iinc 4 1, 3) := by decide +kernel
theorem dX1_readSummedSize_55 : decode cX1_readSummedSize 55 = .ok (.goto (-47), 3) := by decide +kernel
theorem dX1_readSummedSize_58 : decode cX1_readSummedSize 58 = .ok (.ldc2_w 45, 3) := by decide +kernel
theorem dX1_readSummedSize_61 : decode cX1_readSummedSize 61 = .ok (.lreturn, 1) := by decide +kernel
set_option maxRecDepth 20000 in
theorem ggX1_readSizeOrDifference_X1_sizeWidth : GoodIn wsX1_readSizeOrDifference wsX1_sizeWidth := goodIn_r _ [8, 9, 10, 11, 12, 13, 14, 15, 16, 17, 18, 7, 19, 32, 33, 34, 35, 36, 37, 38, 39, 40, 41, 42, 43, 44, 45, 46, 47, 48] (by decide +kernel) (by decide +kernel)
set_option maxRecDepth 20000 in
theorem gX1_readSizeOrDifference_X1_sizeWidth : GoodIn wsX1_readSizeOrDifference (wsV RX1 150 RX1 yX1_sizeWidth wsX1_sizeWidth) := goodIn_app (goodIn_of _ (by decide +kernel)) ggX1_readSizeOrDifference_X1_sizeWidth
set_option maxRecDepth 20000 in
theorem ggX1_readSizeOrDifference_X1_sizeNumber : GoodIn wsX1_readSizeOrDifference wsX1_sizeNumber := goodIn_r _ [23, 9, 2, 10, 11, 12, 13, 14, 15, 16, 24, 25, 26, 27, 28, 32, 33, 34, 35, 36, 37, 38, 39, 40, 41, 42, 43, 44, 45, 46, 47, 48] (by decide +kernel) (by decide +kernel)
set_option maxRecDepth 20000 in
theorem gX1_readSizeOrDifference_X1_sizeNumber : GoodIn wsX1_readSizeOrDifference (wsV RX1 153 RX1 yX1_sizeNumber wsX1_sizeNumber) := goodIn_app (goodIn_of _ (by decide +kernel)) ggX1_readSizeOrDifference_X1_sizeNumber
set_option maxRecDepth 20000 in
theorem ggX1_readSizeOrDifference_X0_differenceShift : GoodIn wsX1_readSizeOrDifference wsX0_differenceShift := goodIn_r _ [31] (by decide +kernel) (by decide +kernel)
set_option maxRecDepth 20000 in
theorem gX1_readSizeOrDifference_X0_differenceShift : GoodIn wsX1_readSizeOrDifference (va_wsS RX1 212 yX0_differenceShift wsX0_differenceShift) := goodIn_app (goodIn_of _ (by decide +kernel)) ggX1_readSizeOrDifference_X0_differenceShift
theorem dX1_readSizeOrDifference_0 : decode cX1_readSizeOrDifference 0 = .ok (.aload_n 0, 1) := by decide +kernel
theorem dX1_readSizeOrDifference_1 : decode cX1_readSizeOrDifference 1 = .ok (.aload_n 0, 1) := by decide +kernel
theorem dX1_readSizeOrDifference_2 : decode cX1_readSizeOrDifference 2 = .ok (.getfield 180, 3) := by decide +kernel
theorem dX1_readSizeOrDifference_5 : decode cX1_readSizeOrDifference 5 = .ok (.iload_n 2, 1) := by decide +kernel
theorem dX1_readSizeOrDifference_6 : decode cX1_readSizeOrDifference 6 = .ok (.invokevirtual 150, 3) := by decide +kernel
theorem dX1_readSizeOrDifference_9 : decode cX1_readSizeOrDifference 9 = .ok (.istore_n 3, 1) := by decide +kernel
theorem dX1_readSizeOrDifference_10 : decode cX1_readSizeOrDifference 10 = .ok (.iload_n 3, 1) := by decide +kernel
theorem dX1_readSizeOrDifference_11 : decode cX1_readSizeOrDifference 11 = .ok (.iconst 1, 1) := by decide +kernel
theorem dX1_readSizeOrDifference_12 : decode cX1_readSizeOrDifference 12 = .ok (.if_icmp .ge 7, 3) := by decide +kernel
theorem dX1_readSizeOrDifference_15 : decode cX1_readSizeOrDifference 15 = .ok (.ldc2_w 45, 3) := by decide +kernel
theorem dX1_readSizeOrDifference_18 : decode cX1_readSizeOrDifference 18 = .ok (.lreturn, 1) := by decide +kernel
theorem dX1_readSizeOrDifference_19 : decode cX1_readSizeOrDifference 19 = .ok (.aload_n 0, 1) := by decide +kernel
theorem dX1_readSizeOrDifference_20 : decode cX1_readSizeOrDifference 20 = .ok (.aload_n 0, 1) := by decide +kernel
theorem dX1_readSizeOrDifference_21 : decode cX1_readSizeOrDifference 21 = .ok (.getfield 180, 3) := by decide +kernel
theorem dX1_readSizeOrDifference_24 : decode cX1_readSizeOrDifference 24 = .ok (.iload_n 3, 1) := by decide +kernel
theorem dX1_readSizeOrDifference_25 : decode cX1_readSizeOrDifference 25 = .ok (.invokevirtual 153, 3) := by decide +kernel
theorem dX1_readSizeOrDifference_28 : decode cX1_readSizeOrDifference 28 = .ok (.lstore 4, 2) := by decide +kernel
theorem dX1_readSizeOrDifference_30 : decode cX1_readSizeOrDifference 30 = .ok (.lload 4, 2) := by decide +kernel
theorem dX1_readSizeOrDifference_32 : decode cX1_readSizeOrDifference 32 = .ok (.ldc2_w 45, 3) := by decide +kernel
theorem dX1_readSizeOrDifference_35 : decode cX1_readSizeOrDifference 35 = .ok (.lcmp, 1) := by decide +kernel
theorem dX1_readSizeOrDifference_36 : decode cX1_readSizeOrDifference 36 = .ok (.ifCond .ne 7, 3) := by decide +kernel
theorem dX1_readSizeOrDifference_39 : decode cX1_readSizeOrDifference 39 = .ok (.ldc2_w 45, 3) := by decide +kernel
theorem dX1_readSizeOrDifference_42 : decode cX1_readSizeOrDifference 42 = .ok (.lreturn, 1) := by decide +kernel
theorem dX1_readSizeOrDifference_43 : decode cX1_readSizeOrDifference 43 = .ok (.aload_n 0, 1) := by decide +kernel
theorem dX1_readSizeOrDifference_44 : decode cX1_readSizeOrDifference 44 = .ok (.dup, 1) := by decide +kernel
theorem dX1_readSizeOrDifference_45 : decode cX1_readSizeOrDifference 45 = .ok (.getfield 180, 3) := by decide +kernel
theorem dX1_readSizeOrDifference_48 : decode cX1_readSizeOrDifference 48 = .ok (.iload_n 3, 1) := by decide +kernel
theorem dX1_readSizeOrDifference_49 : decode cX1_readSizeOrDifference 49 = .ok (.iadd, 1) := by decide +kernel
theorem dX1_readSizeOrDifference_50 : decode cX1_readSizeOrDifference 50 = .ok (.putfield 180, 3) := by decide +kernel
theorem dX1_readSizeOrDifference_53 : decode cX1_readSizeOrDifference 53 = .ok (.iload_n 1, 1) := by decide +kernel
theorem dX1_readSizeOrDifference_54 : decode cX1_readSizeOrDifference 54 = .ok (.iconst 1, 1) := by decide +kernel
theorem dX1_readSizeOrDifference_55 : decode cX1_readSizeOrDifference 55 = .ok (.if_icmp .lt 12, 3) := by decide +kernel
theorem dX1_readSizeOrDifference_58 : decode cX1_readSizeOrDifference 58 = .ok (.iload_n 1, 1) := by decide +kernel
theorem dX1_readSizeOrDifference_59 : decode cX1_readSizeOrDifference 59 = .ok (.aload_n 0, 1) := by decide +kernel
theorem dX1_readSizeOrDifference_60 : decode cX1_readSizeOrDifference 60 = .ok (.getfield 13, 3) := by decide +kernel
theorem dX1_readSizeOrDifference_63 : decode cX1_readSizeOrDifference 63 = .ok (.arraylength, 1) := by decide +kernel
theorem dX1_readSizeOrDifference_64 : decode cX1_readSizeOrDifference 64 = .ok (.if_icmp .le 6, 3) := by decide +kernel
theorem dX1_readSizeOrDifference_67 : decode cX1_readSizeOrDifference 67 = .ok (.lload 4, 2) := by decide +kernel
theorem dX1_readSizeOrDifference_69 : decode cX1_readSizeOrDifference 69 = .ok (.lreturn, 1) := by decide +kernel
theorem dX1_readSizeOrDifference_70 : decode cX1_readSizeOrDifference 70 = .ok (.aload_n 0, 1) := by decide +kernel
theorem dX1_readSizeOrDifference_71 : decode cX1_readSizeOrDifference 71 = .ok (.getfield 13, 3) := by decide +kernel
theorem dX1_readSizeOrDifference_74 : decode cX1_readSizeOrDifference 74 = .ok (.iload_n 1, 1) := by decide +kernel
theorem dX1_readSizeOrDifference_75 : decode cX1_readSizeOrDifference 75 = .ok (.iconst 1, 1) := by decide +kernel
theorem dX1_readSizeOrDifference_76 : decode cX1_readSizeOrDifference 76 = .ok (.isub, 1) := by decide +kernel
theorem dX1_readSizeOrDifference_77 : decode cX1_readSizeOrDifference 77 = .ok (.iaload, 1) := by decide +kernel
theorem dX1_readSizeOrDifference_78 : decode cX1_readSizeOrDifference 78 = .ok (.i2l, 1) := by decide +kernel
theorem dX1_readSizeOrDifference_79 : decode cX1_readSizeOrDifference 79 = .ok (.lload 4, 2) := by decide +kernel
theorem dX1_readSizeOrDifference_81 : decode cX1_readSizeOrDifference 81 = .ok (.ladd, 1) := by decide +kernel
theorem dX1_readSizeOrDifference_82 : decode cX1_readSizeOrDifference 82 = .ok (.iload_n 3, 1) := by decide +kernel
theorem dX1_readSizeOrDifference_83 : decode cX1_readSizeOrDifference 83 = .ok (.invokestatic 212, 3) := by decide +kernel
theorem dX1_readSizeOrDifference_86 : decode cX1_readSizeOrDifference 86 = .ok (.lsub, 1) := by decide +kernel
theorem dX1_readSizeOrDifference_87 : decode cX1_readSizeOrDifference 87 = .ok (.lreturn, 1) := by decide +kernel
set_option maxRecDepth 20000 in
theorem ggX2_init_X8_init : GoodIn wsX2_init wsX8_init := goodIn_r _ [10, 11, 2, 3, 12, 13, 14, 15, 16, 17, 18, 19, 20, 21, 22] (by decide +kernel) (by decide +kernel)
set_option maxRecDepth 20000 in
theorem gX2_init_X8_init : GoodIn wsX2_init (wsX8_init) := ggX2_init_X8_init
theorem dX2_init_0 : decode cX2_init 0 = .ok (.aload_n 0, 1) := by decide +kernel
theorem dX2_init_1 : decode cX2_init 1 = .ok (.invokespecial 3, 3) := by decide +kernel
theorem dX2_init_4 : decode cX2_init 4 = .ok (.aload_n 0, 1) := by decide +kernel
theorem dX2_init_5 : decode cX2_init 5 = .ok (.new 9, 3) := by decide +kernel
theorem dX2_init_8 : decode cX2_init 8 = .ok (.dup, 1) := by decide +kernel
theorem dX2_init_9 : decode cX2_init 9 = .ok (.bipush 64, 2) := by decide +kernel
theorem dX2_init_11 : decode cX2_init 11 = .ok (.invokespecial 13, 3) := by decide +kernel
theorem dX2_init_14 : decode cX2_init 14 = .ok (.putfield 16, 3) := by decide +kernel
theorem dX2_init_17 : decode cX2_init 17 = .ok (.return_, 1) := by decide +kernel
set_option maxRecDepth 20000 in
theorem ggX2_write_X8_addEach : GoodIn wsX2_write wsX8_addEach := goodIn_r _ [15, 16, 17, 18, 14, 19, 20, 21, 22, 23, 24, 25, 26, 27, 137, 138, 139, 140] (by decide +kernel) (by decide +kernel)
set_option maxRecDepth 20000 in
theorem gX2_write_X8_addEach : GoodIn wsX2_write (wsV RX2 42 RX8 yX8_addEach wsX8_addEach) := goodIn_app (goodIn_of _ (by decide +kernel)) ggX2_write_X8_addEach
set_option maxRecDepth 20000 in
theorem ggX2_write_X2_beginLongElement : GoodIn wsX2_write wsX2_beginLongElement := goodIn_r _ [32, 2, 5, 33, 34, 35, 36, 14, 37, 16, 17, 18, 19, 20, 21, 22, 23, 24, 25, 26, 27, 38, 131, 132, 133, 134, 135, 136, 137, 138, 139, 140] (by decide +kernel) (by decide +kernel)
set_option maxRecDepth 20000 in
theorem gX2_write_X2_beginLongElement : GoodIn wsX2_write (wsV RX2 49 RX2 yX2_beginLongElement wsX2_beginLongElement) := goodIn_app (goodIn_of _ (by decide +kernel)) ggX2_write_X2_beginLongElement
set_option maxRecDepth 20000 in
theorem ggX2_write_X8_add : GoodIn wsX2_write wsX8_add := goodIn_r _ [19, 20, 21, 22, 23, 24, 25, 14, 26, 27, 137, 138, 139, 140] (by decide +kernel) (by decide +kernel)
set_option maxRecDepth 20000 in
theorem gX2_write_X8_add : GoodIn wsX2_write (wsV RX2 59 RX8 yX8_add wsX8_add) := goodIn_app (goodIn_of _ (by decide +kernel)) ggX2_write_X8_add
set_option maxRecDepth 20000 in
theorem ggX2_write_X2_putClusters : GoodIn wsX2_write wsX2_putClusters := goodIn_r _ [42, 1, 43, 44, 45, 46, 47, 48, 49, 50, 51, 52, 53, 54, 55, 56, 57, 58, 59, 60, 61, 62, 31, 63, 64, 65, 66, 67, 68, 69, 5, 70, 2, 33, 71, 24, 25, 14, 26, 20, 27, 28, 29, 30, 32, 34, 35, 36, 37, 16, 17, 18, 19, 21, 22, 23, 38, 72, 73, 74, 75, 76, 77, 78, 79, 80, 81, 82, 83, 84, 85, 86, 87, 4, 3, 88, 89, 90, 91, 92, 93, 94, 95, 96, 97, 98, 99, 100, 101, 102, 103, 104, 105, 106, 107, 108, 109, 110, 111, 112, 113, 114, 115, 116, 117, 118, 119, 120, 121, 122, 123, 124, 125, 126, 127, 128, 129, 130, 131, 132, 133, 134, 135, 136, 141, 142, 143, 144, 137, 138, 139, 140] (by decide +kernel) (by decide +kernel)
set_option maxRecDepth 20000 in
theorem gX2_write_X2_putClusters : GoodIn wsX2_write (wsV RX2 65 RX2 yX2_putClusters wsX2_putClusters) := goodIn_app (goodIn_of _ (by decide +kernel)) ggX2_write_X2_putClusters
set_option maxRecDepth 20000 in
theorem ggX2_write_X2_endLongElement : GoodIn wsX2_write wsX2_endLongElement := goodIn_r _ [69, 5, 70, 2, 33, 71, 24, 25, 14, 26, 20, 27, 131, 132, 133, 134, 135, 136, 137, 138, 139, 140] (by decide +kernel) (by decide +kernel)
set_option maxRecDepth 20000 in
theorem gX2_write_X2_endLongElement : GoodIn wsX2_write (wsV RX2 68 RX2 yX2_endLongElement wsX2_endLongElement) := goodIn_app (goodIn_of _ (by decide +kernel)) ggX2_write_X2_endLongElement
theorem dX2_write_0 : decode cX2_write 0 = .ok (.aload_n 0, 1) := by decide +kernel
theorem dX2_write_1 : decode cX2_write 1 = .ok (.aload_n 1, 1) := by decide +kernel
theorem dX2_write_2 : decode cX2_write 2 = .ok (.putfield 20, 3) := by decide +kernel
theorem dX2_write_5 : decode cX2_write 5 = .ok (.aload_n 0, 1) := by decide +kernel
theorem dX2_write_6 : decode cX2_write 6 = .ok (.aload_n 2, 1) := by decide +kernel
theorem dX2_write_7 : decode cX2_write 7 = .ok (.putfield 24, 3) := by decide +kernel
theorem dX2_write_10 : decode cX2_write 10 = .ok (.aload_n 0, 1) := by decide +kernel
theorem dX2_write_11 : decode cX2_write 11 = .ok (.iload_n 3, 1) := by decide +kernel
theorem dX2_write_12 : decode cX2_write 12 = .ok (.putfield 27, 3) := by decide +kernel
theorem dX2_write_15 : decode cX2_write 15 = .ok (.aload_n 0, 1) := by decide +kernel
theorem dX2_write_16 : decode cX2_write 16 = .ok (.iload 4, 2) := by decide +kernel
theorem dX2_write_18 : decode cX2_write 18 = .ok (.putfield 31, 3) := by decide +kernel
theorem dX2_write_21 : decode cX2_write 21 = .ok (.aload_n 0, 1) := by decide +kernel
theorem dX2_write_22 : decode cX2_write 22 = .ok (.iload 6, 2) := by decide +kernel
theorem dX2_write_24 : decode cX2_write 24 = .ok (.putfield 34, 3) := by decide +kernel
theorem dX2_write_27 : decode cX2_write 27 = .ok (.aload_n 0, 1) := by decide +kernel
theorem dX2_write_28 : decode cX2_write 28 = .ok (.getfield 24, 3) := by decide +kernel
theorem dX2_write_31 : decode cX2_write 31 = .ok (.getstatic 38, 3) := by decide +kernel
theorem dX2_write_34 : decode cX2_write 34 = .ok (.invokevirtual 42, 3) := by decide +kernel
theorem dX2_write_37 : decode cX2_write 37 = .ok (.aload_n 0, 1) := by decide +kernel
theorem dX2_write_38 : decode cX2_write 38 = .ok (.ldc 48, 2) := by decide +kernel
theorem dX2_write_40 : decode cX2_write 40 = .ok (.invokevirtual 49, 3) := by decide +kernel
theorem dX2_write_43 : decode cX2_write 43 = .ok (.istore 7, 2) := by decide +kernel
theorem dX2_write_45 : decode cX2_write 45 = .ok (.aload_n 0, 1) := by decide +kernel
theorem dX2_write_46 : decode cX2_write 46 = .ok (.getfield 24, 3) := by decide +kernel
theorem dX2_write_49 : decode cX2_write 49 = .ok (.getstatic 53, 3) := by decide +kernel
theorem dX2_write_52 : decode cX2_write 52 = .ok (.invokevirtual 42, 3) := by decide +kernel
theorem dX2_write_55 : decode cX2_write 55 = .ok (.aload_n 0, 1) := by decide +kernel
theorem dX2_write_56 : decode cX2_write 56 = .ok (.getfield 24, 3) := by decide +kernel
theorem dX2_write_59 : decode cX2_write 59 = .ok (.getstatic 56, 3) := by decide +kernel
theorem dX2_write_62 : decode cX2_write 62 = .ok (.invokevirtual 42, 3) := by decide +kernel
theorem dX2_write_65 : decode cX2_write 65 = .ok (.aload_n 0, 1) := by decide +kernel
theorem dX2_write_66 : decode cX2_write 66 = .ok (.getfield 24, 3) := by decide +kernel
theorem dX2_write_69 : decode cX2_write 69 = .ok (.aload_n 0, 1) := by decide +kernel
theorem dX2_write_70 : decode cX2_write 70 = .ok (.getfield 27, 3) := by decide +kernel
theorem dX2_write_73 : decode cX2_write 73 = .ok (.ifCond .le 7, 3) := by decide +kernel
theorem dX2_write_76 : decode cX2_write 76 = .ok (.iconst 1, 1) := by decide +kernel
theorem dX2_write_77 : decode cX2_write 77 = .ok (.goto 4, 3) := by decide +kernel
theorem dX2_write_80 : decode cX2_write 80 = .ok (.iconst 0, 1) := by decide +kernel
theorem dX2_write_81 : decode cX2_write 81 = .ok (.invokevirtual 59, 3) := by decide +kernel
theorem dX2_write_84 : decode cX2_write 84 = .ok (.aload_n 0, 1) := by decide +kernel
theorem dX2_write_85 : decode cX2_write 85 = .ok (.getfield 24, 3) := by decide +kernel
theorem dX2_write_88 : decode cX2_write 88 = .ok (.getstatic 62, 3) := by decide +kernel
theorem dX2_write_91 : decode cX2_write 91 = .ok (.invokevirtual 42, 3) := by decide +kernel
theorem dX2_write_94 : decode cX2_write 94 = .ok (.aload_n 0, 1) := by decide +kernel
theorem dX2_write_95 : decode cX2_write 95 = .ok (.iload 5, 2) := by decide +kernel
theorem dX2_write_97 : decode cX2_write 97 = .ok (.invokevirtual 65, 3) := by decide +kernel
theorem dX2_write_100 : decode cX2_write 100 = .ok (.aload_n 0, 1) := by decide +kernel
theorem dX2_write_101 : decode cX2_write 101 = .ok (.iload 7, 2) := by decide +kernel
theorem dX2_write_103 : decode cX2_write 103 = .ok (.invokevirtual 68, 3) := by decide +kernel
theorem dX2_write_106 : decode cX2_write 106 = .ok (.return_, 1) := by decide +kernel
set_option maxRecDepth 20000 in
theorem ggX2_putClusters_X4_timeToWrite : GoodIn wsX2_putClusters wsX4_timeToWrite := goodIn_r _ [8, 9, 10, 11, 12, 7, 13, 14, 15, 16, 17, 18, 19, 124, 125, 126, 127] (by decide +kernel) (by decide +kernel)
set_option maxRecDepth 20000 in
theorem gX2_putClusters_X4_timeToWrite : GoodIn wsX2_putClusters (wsV RX2 76 RX4 yX4_timeToWrite wsX4_timeToWrite) := goodIn_app (goodIn_of _ (by decide +kernel)) ggX2_putClusters_X4_timeToWrite
set_option maxRecDepth 20000 in
theorem ggX2_putClusters_X2_fitsBlock : GoodIn wsX2_putClusters wsX2_fitsBlock := goodIn_r _ [23, 24, 25] (by decide +kernel) (by decide +kernel)
set_option maxRecDepth 20000 in
theorem gX2_putClusters_X2_fitsBlock : GoodIn wsX2_putClusters (va_wsS RX2 80 yX2_fitsBlock wsX2_fitsBlock) := goodIn_app (goodIn_of _ (by decide +kernel)) ggX2_putClusters_X2_fitsBlock
set_option maxRecDepth 20000 in
theorem ggX2_putClusters_X2_endLongElement : GoodIn wsX2_putClusters wsX2_endLongElement := goodIn_r _ [29, 30, 31, 32, 33, 34, 35, 36, 37, 38, 39, 40, 118, 119, 120, 121, 122, 123, 128, 129, 130, 131] (by decide +kernel) (by decide +kernel)
set_option maxRecDepth 20000 in
theorem gX2_putClusters_X2_endLongElement : GoodIn wsX2_putClusters (wsV RX2 68 RX2 yX2_endLongElement wsX2_endLongElement) := goodIn_app (goodIn_of _ (by decide +kernel)) ggX2_putClusters_X2_endLongElement
set_option maxRecDepth 20000 in
theorem ggX2_putClusters_X2_beginLongElement : GoodIn wsX2_putClusters wsX2_beginLongElement := goodIn_r _ [44, 32, 30, 33, 45, 46, 47, 37, 48, 49, 50, 51, 52, 39, 53, 54, 55, 35, 36, 38, 40, 56, 118, 119, 120, 121, 122, 123, 128, 129, 130, 131] (by decide +kernel) (by decide +kernel)
set_option maxRecDepth 20000 in
theorem gX2_putClusters_X2_beginLongElement : GoodIn wsX2_putClusters (wsV RX2 49 RX2 yX2_beginLongElement wsX2_beginLongElement) := goodIn_app (goodIn_of _ (by decide +kernel)) ggX2_putClusters_X2_beginLongElement
set_option maxRecDepth 20000 in
theorem ggX2_putClusters_X2_putClusterTime : GoodIn wsX2_putClusters wsX2_putClusterTime := goodIn_r _ [60, 32, 56, 50, 51, 37, 52, 39, 53, 54, 55, 35, 36, 38, 40, 61, 62, 22, 63, 64, 65, 66, 67, 68, 45, 46, 47, 48, 49, 118, 119, 120, 121, 122, 123, 128, 129, 130, 131] (by decide +kernel) (by decide +kernel)
set_option maxRecDepth 20000 in
theorem gX2_putClusters_X2_putClusterTime : GoodIn wsX2_putClusters (wsV RX2 85 RX2 yX2_putClusterTime wsX2_putClusterTime) := goodIn_app (goodIn_of _ (by decide +kernel)) ggX2_putClusters_X2_putClusterTime
set_option maxRecDepth 20000 in
theorem ggX2_putClusters_X2_packetsOfBlock : GoodIn wsX2_putClusters wsX2_packetsOfBlock := goodIn_r _ [72, 1, 2, 73, 74, 75, 76, 77, 7, 78, 79, 15, 16, 17, 18, 19, 80, 81, 82, 83, 118, 119, 120, 121, 122, 123, 124, 125, 126, 127] (by decide +kernel) (by decide +kernel)
set_option maxRecDepth 20000 in
theorem gX2_putClusters_X2_packetsOfBlock : GoodIn wsX2_putClusters (wsV RX2 89 RX2 yX2_packetsOfBlock wsX2_packetsOfBlock) := goodIn_app (goodIn_of _ (by decide +kernel)) ggX2_putClusters_X2_packetsOfBlock
set_option maxRecDepth 20000 in
theorem ggX2_putClusters_X2_putBlock : GoodIn wsX2_putClusters wsX2_putBlock := goodIn_r _ [87, 74, 88, 1, 32, 33, 89, 90, 91, 92, 37, 93, 39, 54, 56, 50, 51, 52, 53, 55, 35, 36, 38, 40, 45, 46, 47, 48, 49, 75, 76, 77, 7, 78, 79, 15, 16, 17, 18, 19, 80, 81, 82, 83, 94, 95, 96, 22, 97, 61, 62, 63, 64, 65, 66, 67, 68, 98, 99, 100, 101, 102, 103, 104, 105, 106, 107, 108, 109, 110, 111, 112, 113, 114, 115, 116, 117, 118, 119, 120, 121, 122, 123, 128, 129, 130, 131, 124, 125, 126, 127] (by decide +kernel) (by decide +kernel)
set_option maxRecDepth 20000 in
theorem gX2_putClusters_X2_putBlock : GoodIn wsX2_putClusters (wsV RX2 92 RX2 yX2_putBlock wsX2_putBlock) := goodIn_app (goodIn_of _ (by decide +kernel)) ggX2_putClusters_X2_putBlock
theorem dX2_putClusters_0 : decode cX2_putClusters 0 = .ok (.iconst (-1), 1) := by decide +kernel
theorem dX2_putClusters_1 : decode cX2_putClusters 1 = .ok (.istore_n 2, 1) := by decide +kernel
theorem dX2_putClusters_2 : decode cX2_putClusters 2 = .ok (.lconst 0, 1) := by decide +kernel
theorem dX2_putClusters_3 : decode cX2_putClusters 3 = .ok (.lstore_n 3, 1) := by decide +kernel
theorem dX2_putClusters_4 : decode cX2_putClusters 4 = .ok (.iconst 0, 1) := by decide +kernel
theorem dX2_putClusters_5 : decode cX2_putClusters 5 = .ok (.istore 5, 2) := by decide +kernel
theorem dX2_putClusters_7 : decode cX2_putClusters 7 = .ok (.iconst 0, 1) := by decide +kernel
theorem dX2_putClusters_8 : decode cX2_putClusters 8 = .ok (.istore 6, 2) := by decide +kernel
theorem dX2_putClusters_10 : decode cX2_putClusters 10 = .ok (.iconst 0, 1) := by decide +kernel
theorem dX2_putClusters_11 : decode cX2_putClusters 11 = .ok (.istore 7, 2) := by decide +kernel
theorem dX2_putClusters_13 : decode cX2_putClusters 13 = .ok (.iload 7, 2) := by decide +kernel
theorem dX2_putClusters_15 : decode cX2_putClusters 15 = .ok (.aload_n 0, 1) := by decide +kernel
theorem dX2_putClusters_16 : decode cX2_putClusters 16 = .ok (.getfield 20, 3) := by decide +kernel
theorem dX2_putClusters_19 : decode cX2_putClusters 19 = .ok (.getfield 71, 3) := by decide +kernel
theorem dX2_putClusters_22 : decode cX2_putClusters 22 = .ok (.if_icmp .ge 106, 3) := by decide +kernel
theorem dX2_putClusters_25 : decode cX2_putClusters 25 = .ok (.iload 6, 2) := by decide +kernel
theorem dX2_putClusters_27 : decode cX2_putClusters 27 = .ok (.aload_n 0, 1) := by decide +kernel
theorem dX2_putClusters_28 : decode cX2_putClusters 28 = .ok (.getfield 20, 3) := by decide +kernel
theorem dX2_putClusters_31 : decode cX2_putClusters 31 = .ok (.getfield 71, 3) := by decide +kernel
theorem dX2_putClusters_34 : decode cX2_putClusters 34 = .ok (.if_icmp .ge 94, 3) := by decide +kernel
theorem dX2_putClusters_37 : decode cX2_putClusters 37 = .ok (.aload_n 0, 1) := by decide +kernel
theorem dX2_putClusters_38 : decode cX2_putClusters 38 = .ok (.getfield 20, 3) := by decide +kernel
theorem dX2_putClusters_41 : decode cX2_putClusters 41 = .ok (.iload 6, 2) := by decide +kernel
theorem dX2_putClusters_43 : decode cX2_putClusters 43 = .ok (.invokevirtual 76, 3) := by decide +kernel
theorem dX2_putClusters_46 : decode cX2_putClusters 46 = .ok (.lstore 8, 2) := by decide +kernel
theorem dX2_putClusters_48 : decode cX2_putClusters 48 = .ok (.iload_n 2, 1) := by decide +kernel
theorem dX2_putClusters_49 : decode cX2_putClusters 49 = .ok (.iconst (-1), 1) := by decide +kernel
theorem dX2_putClusters_50 : decode cX2_putClusters 50 = .ok (.if_icmp .eq 19, 3) := by decide +kernel
theorem dX2_putClusters_53 : decode cX2_putClusters 53 = .ok (.iload 5, 2) := by decide +kernel
theorem dX2_putClusters_55 : decode cX2_putClusters 55 = .ok (.iload_n 1, 1) := by decide +kernel
theorem dX2_putClusters_56 : decode cX2_putClusters 56 = .ok (.if_icmp .ge 13, 3) := by decide +kernel
theorem dX2_putClusters_59 : decode cX2_putClusters 59 = .ok (.lload 8, 2) := by decide +kernel
theorem dX2_putClusters_61 : decode cX2_putClusters 61 = .ok (.lload_n 3, 1) := by decide +kernel
theorem dX2_putClusters_62 : decode cX2_putClusters 62 = .ok (.lsub, 1) := by decide +kernel
theorem dX2_putClusters_63 : decode cX2_putClusters 63 = .ok (.invokestatic 80, 3) := by decide +kernel
theorem dX2_putClusters_66 : decode cX2_putClusters 66 = .ok (.ifCond .ne 26, 3) := by decide +kernel
theorem dX2_putClusters_69 : decode cX2_putClusters 69 = .ok (.aload_n 0, 1) := by decide +kernel
theorem dX2_putClusters_70 : decode cX2_putClusters 70 = .ok (.iload_n 2, 1) := by decide +kernel
theorem dX2_putClusters_71 : decode cX2_putClusters 71 = .ok (.invokevirtual 68, 3) := by decide +kernel
theorem dX2_putClusters_74 : decode cX2_putClusters 74 = .ok (.aload_n 0, 1) := by decide +kernel
theorem dX2_putClusters_75 : decode cX2_putClusters 75 = .ok (.ldc 84, 2) := by decide +kernel
theorem dX2_putClusters_77 : decode cX2_putClusters 77 = .ok (.invokevirtual 49, 3) := by decide +kernel
theorem dX2_putClusters_80 : decode cX2_putClusters 80 = .ok (.istore_n 2, 1) := by decide +kernel
theorem dX2_putClusters_81 : decode cX2_putClusters 81 = .ok (.lload 8, 2) := by decide +kernel
theorem dX2_putClusters_83 : decode cX2_putClusters 83 = .ok (.lstore_n 3, 1) := by decide +kernel
theorem dX2_putClusters_84 : decode cX2_putClusters 84 = .ok (.iconst 0, 1) := by decide +kernel
theorem dX2_putClusters_85 : decode cX2_putClusters 85 = .ok (.istore 5, 2) := by decide +kernel
theorem dX2_putClusters_87 : decode cX2_putClusters 87 = .ok (.aload_n 0, 1) := by decide +kernel
theorem dX2_putClusters_88 : decode cX2_putClusters 88 = .ok (.lload_n 3, 1) := by decide +kernel
theorem dX2_putClusters_89 : decode cX2_putClusters 89 = .ok (.invokevirtual 85, 3) := by decide +kernel
theorem dX2_putClusters_92 : decode cX2_putClusters 92 = .ok (.aload_n 0, 1) := by decide +kernel
theorem dX2_putClusters_93 : decode cX2_putClusters 93 = .ok (.iload 6, 2) := by decide +kernel
theorem dX2_putClusters_95 : decode cX2_putClusters 95 = .ok (.invokevirtual 89, 3) := by decide +kernel
theorem dX2_putClusters_98 : decode cX2_putClusters 98 = .ok (.istore 10, 2) := by decide +kernel
theorem dX2_putClusters_100 : decode cX2_putClusters 100 = .ok (.aload_n 0, 1) := by decide +kernel
theorem dX2_putClusters_101 : decode cX2_putClusters 101 = .ok (.iload 6, 2) := by decide +kernel
theorem dX2_putClusters_103 : decode cX2_putClusters 103 = .ok (.iload 10, 2) := by decide +kernel
theorem dX2_putClusters_105 : decode cX2_putClusters 105 = .ok (.lload 8, 2) := by decide +kernel
theorem dX2_putClusters_107 : decode cX2_putClusters 107 = .ok (.lload_n 3, 1) := by decide +kernel
theorem dX2_putClusters_108 : decode cX2_putClusters 108 = .ok (.lsub, 1) := by decide +kernel
theorem dX2_putClusters_109 : decode cX2_putClusters 109 = .ok (.invokevirtual 92, 3) := by decide +kernel
theorem dX2_putClusters_112 : decode cX2_putClusters 112 = .ok (.iinc 5 1, 3) := by decide +kernel
theorem dX2_putClusters_115 : decode cX2_putClusters 115 = .ok (.iload 6, 2) := by decide +kernel
theorem dX2_putClusters_117 : decode cX2_putClusters 117 = .ok (.iload 10, 2) := by decide +kernel
theorem dX2_putClusters_119 : decode cX2_putClusters 119 = .ok (.iadd, 1) := by decide +kernel
theorem dX2_putClusters_120 : decode cX2_putClusters 120 = .ok (.istore 6, 2) := by decide +kernel
theorem dX2_putClusters_122 : decode cX2_putClusters 122 = .ok (.iinc 7 1, 3) := by decide +kernel
theorem dX2_putClusters_125 : decode cX2_putClusters 125 = .ok (.goto (-112), 3) := by decide +kernel
theorem dX2_putClusters_128 : decode cX2_putClusters 128 = .ok (.aload_n 0, 1) := by decide +kernel
theorem dX2_putClusters_129 : decode cX2_putClusters 129 = .ok (.iload_n 2, 1) := by decide +kernel
theorem dX2_putClusters_130 : decode cX2_putClusters 130 = .ok (.invokevirtual 68, 3) := by decide +kernel
theorem dX2_putClusters_133 : decode cX2_putClusters 133 = .ok (.return_, 1) := by decide +kernel
theorem dX2_fitsBlock_0 : decode cX2_fitsBlock 0 = .ok (.lload_n 0, 1) := by decide +kernel
theorem dX2_fitsBlock_1 : decode cX2_fitsBlock 1 = .ok (.ldc2_w 96, 3) := by decide +kernel
theorem dX2_fitsBlock_4 : decode cX2_fitsBlock 4 = .ok (.lcmp, 1) := by decide +kernel
theorem dX2_fitsBlock_5 : decode cX2_fitsBlock 5 = .ok (.ifCond .lt 15, 3) := by decide +kernel
theorem dX2_fitsBlock_8 : decode cX2_fitsBlock 8 = .ok (.lload_n 0, 1) := by decide +kernel
theorem dX2_fitsBlock_9 : decode cX2_fitsBlock 9 = .ok (.ldc2_w 98, 3) := by decide +kernel
theorem dX2_fitsBlock_12 : decode cX2_fitsBlock 12 = .ok (.lcmp, 1) := by decide +kernel
theorem dX2_fitsBlock_13 : decode cX2_fitsBlock 13 = .ok (.ifCond .gt 7, 3) := by decide +kernel
theorem dX2_fitsBlock_16 : decode cX2_fitsBlock 16 = .ok (.iconst 1, 1) := by decide +kernel
theorem dX2_fitsBlock_17 : decode cX2_fitsBlock 17 = .ok (.goto 4, 3) := by decide +kernel
theorem dX2_fitsBlock_20 : decode cX2_fitsBlock 20 = .ok (.iconst 0, 1) := by decide +kernel
theorem dX2_fitsBlock_21 : decode cX2_fitsBlock 21 = .ok (.ireturn, 1) := by decide +kernel
set_option maxRecDepth 20000 in
theorem ggX2_beginLongElement_X8_addHighFirst : GoodIn wsX2_beginLongElement wsX8_addHighFirst := goodIn_r _ [8, 9, 10, 11, 7, 12, 13, 14, 15, 16, 17, 18, 19, 20, 28, 29, 30, 31] (by decide +kernel) (by decide +kernel)
set_option maxRecDepth 20000 in
theorem gX2_beginLongElement_X8_addHighFirst : GoodIn wsX2_beginLongElement (wsV RX2 100 RX8 yX8_addHighFirst wsX8_addHighFirst) := goodIn_app (goodIn_of _ (by decide +kernel)) ggX2_beginLongElement_X8_addHighFirst
set_option maxRecDepth 20000 in
theorem ggX2_beginLongElement_X8_add : GoodIn wsX2_beginLongElement wsX8_add := goodIn_r _ [12, 13, 14, 15, 16, 17, 18, 7, 19, 20, 28, 29, 30, 31] (by decide +kernel) (by decide +kernel)
set_option maxRecDepth 20000 in
theorem gX2_beginLongElement_X8_add : GoodIn wsX2_beginLongElement (wsV RX2 59 RX8 yX8_add wsX8_add) := goodIn_app (goodIn_of _ (by decide +kernel)) ggX2_beginLongElement_X8_add
theorem dX2_beginLongElement_0 : decode cX2_beginLongElement 0 = .ok (.aload_n 0, 1) := by decide +kernel
theorem dX2_beginLongElement_1 : decode cX2_beginLongElement 1 = .ok (.getfield 24, 3) := by decide +kernel
theorem dX2_beginLongElement_4 : decode cX2_beginLongElement 4 = .ok (.iload_n 1, 1) := by decide +kernel
theorem dX2_beginLongElement_5 : decode cX2_beginLongElement 5 = .ok (.i2l, 1) := by decide +kernel
theorem dX2_beginLongElement_6 : decode cX2_beginLongElement 6 = .ok (.iconst 4, 1) := by decide +kernel
theorem dX2_beginLongElement_7 : decode cX2_beginLongElement 7 = .ok (.invokevirtual 100, 3) := by decide +kernel
theorem dX2_beginLongElement_10 : decode cX2_beginLongElement 10 = .ok (.aload_n 0, 1) := by decide +kernel
theorem dX2_beginLongElement_11 : decode cX2_beginLongElement 11 = .ok (.getfield 34, 3) := by decide +kernel
theorem dX2_beginLongElement_14 : decode cX2_beginLongElement 14 = .ok (.ifCond .eq 16, 3) := by decide +kernel
theorem dX2_beginLongElement_17 : decode cX2_beginLongElement 17 = .ok (.aload_n 0, 1) := by decide +kernel
theorem dX2_beginLongElement_18 : decode cX2_beginLongElement 18 = .ok (.getfield 24, 3) := by decide +kernel
theorem dX2_beginLongElement_21 : decode cX2_beginLongElement 21 = .ok (.sipush 255, 3) := by decide +kernel
theorem dX2_beginLongElement_24 : decode cX2_beginLongElement 24 = .ok (.invokevirtual 59, 3) := by decide +kernel
theorem dX2_beginLongElement_27 : decode cX2_beginLongElement 27 = .ok (.goto 12, 3) := by decide +kernel
theorem dX2_beginLongElement_30 : decode cX2_beginLongElement 30 = .ok (.aload_n 0, 1) := by decide +kernel
theorem dX2_beginLongElement_31 : decode cX2_beginLongElement 31 = .ok (.getfield 24, 3) := by decide +kernel
theorem dX2_beginLongElement_34 : decode cX2_beginLongElement 34 = .ok (.lconst 0, 1) := by decide +kernel
theorem dX2_beginLongElement_35 : decode cX2_beginLongElement 35 = .ok (.iconst 4, 1) := by decide +kernel
theorem dX2_beginLongElement_36 : decode cX2_beginLongElement 36 = .ok (.invokevirtual 100, 3) := by decide +kernel
theorem dX2_beginLongElement_39 : decode cX2_beginLongElement 39 = .ok (.aload_n 0, 1) := by decide +kernel
theorem dX2_beginLongElement_40 : decode cX2_beginLongElement 40 = .ok (.getfield 24, 3) := by decide +kernel
theorem dX2_beginLongElement_43 : decode cX2_beginLongElement 43 = .ok (.getfield 104, 3) := by decide +kernel
theorem dX2_beginLongElement_46 : decode cX2_beginLongElement 46 = .ok (.ireturn, 1) := by decide +kernel
set_option maxRecDepth 20000 in
theorem ggX2_endLongElement_X8_change : GoodIn wsX2_endLongElement wsX8_change := goodIn_r _ [9, 10, 11, 18, 19, 20, 21] (by decide +kernel) (by decide +kernel)
set_option maxRecDepth 20000 in
theorem gX2_endLongElement_X8_change : GoodIn wsX2_endLongElement (wsV RX2 108 RX8 yX8_change wsX8_change) := goodIn_app (goodIn_of _ (by decide +kernel)) ggX2_endLongElement_X8_change
theorem dX2_endLongElement_0 : decode cX2_endLongElement 0 = .ok (.iload_n 1, 1) := by decide +kernel
theorem dX2_endLongElement_1 : decode cX2_endLongElement 1 = .ok (.iconst (-1), 1) := by decide +kernel
theorem dX2_endLongElement_2 : decode cX2_endLongElement 2 = .ok (.if_icmp .eq 10, 3) := by decide +kernel
theorem dX2_endLongElement_5 : decode cX2_endLongElement 5 = .ok (.aload_n 0, 1) := by decide +kernel
theorem dX2_endLongElement_6 : decode cX2_endLongElement 6 = .ok (.getfield 34, 3) := by decide +kernel
theorem dX2_endLongElement_9 : decode cX2_endLongElement 9 = .ok (.ifCond .eq 4, 3) := by decide +kernel
theorem dX2_endLongElement_12 : decode cX2_endLongElement 12 = .ok (.return_, 1) := by decide +kernel
theorem dX2_endLongElement_13 : decode cX2_endLongElement 13 = .ok (.ldc 107, 2) := by decide +kernel
theorem dX2_endLongElement_15 : decode cX2_endLongElement 15 = .ok (.aload_n 0, 1) := by decide +kernel
theorem dX2_endLongElement_16 : decode cX2_endLongElement 16 = .ok (.getfield 24, 3) := by decide +kernel
theorem dX2_endLongElement_19 : decode cX2_endLongElement 19 = .ok (.getfield 104, 3) := by decide +kernel
theorem dX2_endLongElement_22 : decode cX2_endLongElement 22 = .ok (.iload_n 1, 1) := by decide +kernel
theorem dX2_endLongElement_23 : decode cX2_endLongElement 23 = .ok (.isub, 1) := by decide +kernel
theorem dX2_endLongElement_24 : decode cX2_endLongElement 24 = .ok (.ior, 1) := by decide +kernel
theorem dX2_endLongElement_25 : decode cX2_endLongElement 25 = .ok (.istore_n 2, 1) := by decide +kernel
theorem dX2_endLongElement_26 : decode cX2_endLongElement 26 = .ok (.iconst 0, 1) := by decide +kernel
theorem dX2_endLongElement_27 : decode cX2_endLongElement 27 = .ok (.istore_n 3, 1) := by decide +kernel
theorem dX2_endLongElement_28 : decode cX2_endLongElement 28 = .ok (.iload_n 3, 1) := by decide +kernel
theorem dX2_endLongElement_29 : decode cX2_endLongElement 29 = .ok (.iconst 4, 1) := by decide +kernel
theorem dX2_endLongElement_30 : decode cX2_endLongElement 30 = .ok (.if_icmp .ge 28, 3) := by decide +kernel
theorem dX2_endLongElement_33 : decode cX2_endLongElement 33 = .ok (.aload_n 0, 1) := by decide +kernel
theorem dX2_endLongElement_34 : decode cX2_endLongElement 34 = .ok (.getfield 24, 3) := by decide +kernel
theorem dX2_endLongElement_37 : decode cX2_endLongElement 37 = .ok (.iload_n 1, 1) := by decide +kernel
theorem dX2_endLongElement_38 : decode cX2_endLongElement 38 = .ok (.iconst 1, 1) := by decide +kernel
theorem dX2_endLongElement_39 : decode cX2_endLongElement 39 = .ok (.isub, 1) := by decide +kernel
theorem dX2_endLongElement_40 : decode cX2_endLongElement 40 = .ok (.iload_n 3, 1) := by decide +kernel
theorem dX2_endLongElement_41 : decode cX2_endLongElement 41 = .ok (.isub, 1) := by decide +kernel
theorem dX2_endLongElement_42 : decode cX2_endLongElement 42 = .ok (.iload_n 2, 1) := by decide +kernel
theorem dX2_endLongElement_43 : decode cX2_endLongElement 43 = .ok (.bipush 8, 2) := by decide +kernel
theorem dX2_endLongElement_45 : decode cX2_endLongElement 45 = .ok (.iload_n 3, 1) := by decide +kernel
theorem dX2_endLongElement_46 : decode cX2_endLongElement 46 = .ok (.imul, 1) := by decide +kernel
theorem dX2_endLongElement_47 : decode cX2_endLongElement 47 = .ok (.iushr, 1) := by decide +kernel
theorem dX2_endLongElement_48 : decode cX2_endLongElement 48 = .ok (.invokevirtual 108, 3) := by decide +kernel
theorem dX2_endLongElement_51 : decode cX2_endLongElement 51 = .ok (.pop, 1) := by decide +kernel
theorem dX2_endLongElement_52 : decode cX2_endLongElement 52 = .ok (.iinc 3 1, 3) := by decide +kernel
theorem dX2_endLongElement_55 : decode cX2_endLongElement 55 = .ok (.goto (-27), 3) := by decide +kernel
theorem dX2_endLongElement_58 : decode cX2_endLongElement 58 = .ok (.return_, 1) := by decide +kernel
set_option maxRecDepth 20000 in
theorem ggX2_putClusterTime_X8_add : GoodIn wsX2_putClusterTime wsX8_add := goodIn_r _ [6, 7, 8, 9, 10, 11, 12, 5, 13, 14, 35, 36, 37, 38] (by decide +kernel) (by decide +kernel)
set_option maxRecDepth 20000 in
theorem gX2_putClusterTime_X8_add : GoodIn wsX2_putClusterTime (wsV RX2 59 RX8 yX8_add wsX8_add) := goodIn_app (goodIn_of _ (by decide +kernel)) ggX2_putClusterTime_X8_add
set_option maxRecDepth 20000 in
theorem ggX2_putClusterTime_X2_putSize : GoodIn wsX2_putClusterTime wsX2_putSize := goodIn_r _ [18, 19, 20, 21, 22, 23, 24, 25, 26, 5, 27, 28, 3, 4, 6, 7, 8, 9, 10, 11, 12, 13, 14, 35, 36, 37, 38] (by decide +kernel) (by decide +kernel)
set_option maxRecDepth 20000 in
theorem gX2_putClusterTime_X2_putSize : GoodIn wsX2_putClusterTime (va_wsS RX2 112 yX2_putSize wsX2_putSize) := goodIn_app (goodIn_of _ (by decide +kernel)) ggX2_putClusterTime_X2_putSize
set_option maxRecDepth 20000 in
theorem ggX2_putClusterTime_X8_addHighFirst : GoodIn wsX2_putClusterTime wsX8_addHighFirst := goodIn_r _ [27, 28, 3, 4, 5, 6, 7, 8, 9, 10, 11, 12, 13, 14, 35, 36, 37, 38] (by decide +kernel) (by decide +kernel)
set_option maxRecDepth 20000 in
theorem gX2_putClusterTime_X8_addHighFirst : GoodIn wsX2_putClusterTime (wsV RX2 100 RX8 yX8_addHighFirst wsX8_addHighFirst) := goodIn_app (goodIn_of _ (by decide +kernel)) ggX2_putClusterTime_X8_addHighFirst
theorem dX2_putClusterTime_0 : decode cX2_putClusterTime 0 = .ok (.iconst 1, 1) := by decide +kernel
theorem dX2_putClusterTime_1 : decode cX2_putClusterTime 1 = .ok (.istore_n 3, 1) := by decide +kernel
theorem dX2_putClusterTime_2 : decode cX2_putClusterTime 2 = .ok (.iconst 2, 1) := by decide +kernel
theorem dX2_putClusterTime_3 : decode cX2_putClusterTime 3 = .ok (.istore 4, 2) := by decide +kernel
theorem dX2_putClusterTime_5 : decode cX2_putClusterTime 5 = .ok (.iload 4, 2) := by decide +kernel
theorem dX2_putClusterTime_7 : decode cX2_putClusterTime 7 = .ok (.bipush 8, 2) := by decide +kernel
theorem dX2_putClusterTime_9 : decode cX2_putClusterTime 9 = .ok (.if_icmp .gt 26, 3) := by decide +kernel
theorem dX2_putClusterTime_12 : decode cX2_putClusterTime 12 = .ok (.lload_n 1, 1) := by decide +kernel
theorem dX2_putClusterTime_13 : decode cX2_putClusterTime 13 = .ok (.bipush 8, 2) := by decide +kernel
theorem dX2_putClusterTime_15 : decode cX2_putClusterTime 15 = .ok (.iload 4, 2) := by decide +kernel
theorem dX2_putClusterTime_17 : decode cX2_putClusterTime 17 = .ok (.iconst 1, 1) := by decide +kernel
theorem dX2_putClusterTime_18 : decode cX2_putClusterTime 18 = .ok (.isub, 1) := by decide +kernel
theorem dX2_putClusterTime_19 : decode cX2_putClusterTime 19 = .ok (.imul, 1) := by decide +kernel
theorem dX2_putClusterTime_20 : decode cX2_putClusterTime 20 = .ok (.lushr, 1) := by decide +kernel
theorem dX2_putClusterTime_21 : decode cX2_putClusterTime 21 = .ok (.lconst 0, 1) := by decide +kernel
theorem dX2_putClusterTime_22 : decode cX2_putClusterTime 22 = .ok (.lcmp, 1) := by decide +kernel
theorem dX2_putClusterTime_23 : decode cX2_putClusterTime 23 = .ok (.ifCond .eq 6, 3) := by decide +kernel
theorem dX2_putClusterTime_26 : decode cX2_putClusterTime 26 = .ok (.iload 4, 2) := by decide +kernel
theorem dX2_putClusterTime_28 : decode cX2_putClusterTime 28 = .ok (.istore_n 3, 1) := by decide +kernel
theorem dX2_putClusterTime_29 : decode cX2_putClusterTime 29 = .ok (.iinc 4 1, 3) := by decide +kernel
theorem dX2_putClusterTime_32 : decode cX2_putClusterTime 32 = .ok (.goto (-27), 3) := by decide +kernel
theorem dX2_putClusterTime_35 : decode cX2_putClusterTime 35 = .ok (.aload_n 0, 1) := by decide +kernel
theorem dX2_putClusterTime_36 : decode cX2_putClusterTime 36 = .ok (.getfield 24, 3) := by decide +kernel
theorem dX2_putClusterTime_39 : decode cX2_putClusterTime 39 = .ok (.sipush 231, 3) := by decide +kernel
theorem dX2_putClusterTime_42 : decode cX2_putClusterTime 42 = .ok (.invokevirtual 59, 3) := by decide +kernel
theorem dX2_putClusterTime_45 : decode cX2_putClusterTime 45 = .ok (.aload_n 0, 1) := by decide +kernel
theorem dX2_putClusterTime_46 : decode cX2_putClusterTime 46 = .ok (.getfield 24, 3) := by decide +kernel
theorem dX2_putClusterTime_49 : decode cX2_putClusterTime 49 = .ok (.iload_n 3, 1) := by decide +kernel
theorem dX2_putClusterTime_50 : decode cX2_putClusterTime 50 = .ok (.i2l, 1) := by decide +kernel
theorem dX2_putClusterTime_51 : decode cX2_putClusterTime 51 = .ok (.invokestatic 112, 3) := by decide +kernel
theorem dX2_putClusterTime_54 : decode cX2_putClusterTime 54 = .ok (.aload_n 0, 1) := by decide +kernel
theorem dX2_putClusterTime_55 : decode cX2_putClusterTime 55 = .ok (.getfield 24, 3) := by decide +kernel
theorem dX2_putClusterTime_58 : decode cX2_putClusterTime 58 = .ok (.lload_n 1, 1) := by decide +kernel
theorem dX2_putClusterTime_59 : decode cX2_putClusterTime 59 = .ok (.iload_n 3, 1) := by decide +kernel
theorem dX2_putClusterTime_60 : decode cX2_putClusterTime 60 = .ok (.invokevirtual 100, 3) := by decide +kernel
theorem dX2_putClusterTime_63 : decode cX2_putClusterTime 63 = .ok (.return_, 1) := by decide +kernel
set_option maxRecDepth 20000 in
theorem ggX2_packetsOfBlock_X4_bytesOf : GoodIn wsX2_packetsOfBlock wsX4_bytesOf := goodIn_r _ [9, 10, 11, 12, 13, 8, 14, 15, 16, 17, 18, 19, 26, 27, 28, 29] (by decide +kernel) (by decide +kernel)
set_option maxRecDepth 20000 in
theorem gX2_packetsOfBlock_X4_bytesOf : GoodIn wsX2_packetsOfBlock (wsV RX2 116 RX4 yX4_bytesOf wsX4_bytesOf) := goodIn_app (goodIn_of _ (by decide +kernel)) ggX2_packetsOfBlock_X4_bytesOf
theorem dX2_packetsOfBlock_0 : decode cX2_packetsOfBlock 0 = .ok (.iconst 1, 1) := by decide +kernel
theorem dX2_packetsOfBlock_1 : decode cX2_packetsOfBlock 1 = .ok (.istore_n 2, 1) := by decide +kernel
theorem dX2_packetsOfBlock_2 : decode cX2_packetsOfBlock 2 = .ok (.iload_n 1, 1) := by decide +kernel
theorem dX2_packetsOfBlock_3 : decode cX2_packetsOfBlock 3 = .ok (.iconst 1, 1) := by decide +kernel
theorem dX2_packetsOfBlock_4 : decode cX2_packetsOfBlock 4 = .ok (.iadd, 1) := by decide +kernel
theorem dX2_packetsOfBlock_5 : decode cX2_packetsOfBlock 5 = .ok (.istore_n 3, 1) := by decide +kernel
theorem dX2_packetsOfBlock_6 : decode cX2_packetsOfBlock 6 = .ok (.iload_n 3, 1) := by decide +kernel
theorem dX2_packetsOfBlock_7 : decode cX2_packetsOfBlock 7 = .ok (.aload_n 0, 1) := by decide +kernel
theorem dX2_packetsOfBlock_8 : decode cX2_packetsOfBlock 8 = .ok (.getfield 20, 3) := by decide +kernel
theorem dX2_packetsOfBlock_11 : decode cX2_packetsOfBlock 11 = .ok (.getfield 71, 3) := by decide +kernel
theorem dX2_packetsOfBlock_14 : decode cX2_packetsOfBlock 14 = .ok (.if_icmp .ge 50, 3) := by decide +kernel
theorem dX2_packetsOfBlock_17 : decode cX2_packetsOfBlock 17 = .ok (.iload_n 2, 1) := by decide +kernel
theorem dX2_packetsOfBlock_18 : decode cX2_packetsOfBlock 18 = .ok (.aload_n 0, 1) := by decide +kernel
theorem dX2_packetsOfBlock_19 : decode cX2_packetsOfBlock 19 = .ok (.getfield 31, 3) := by decide +kernel
theorem dX2_packetsOfBlock_22 : decode cX2_packetsOfBlock 22 = .ok (.if_icmp .ge 42, 3) := by decide +kernel
theorem dX2_packetsOfBlock_25 : decode cX2_packetsOfBlock 25 = .ok (.aload_n 0, 1) := by decide +kernel
theorem dX2_packetsOfBlock_26 : decode cX2_packetsOfBlock 26 = .ok (.getfield 27, 3) := by decide +kernel
theorem dX2_packetsOfBlock_29 : decode cX2_packetsOfBlock 29 = .ok (.iconst 2, 1) := by decide +kernel
theorem dX2_packetsOfBlock_30 : decode cX2_packetsOfBlock 30 = .ok (.if_icmp .ne 25, 3) := by decide +kernel
theorem dX2_packetsOfBlock_33 : decode cX2_packetsOfBlock 33 = .ok (.aload_n 0, 1) := by decide +kernel
theorem dX2_packetsOfBlock_34 : decode cX2_packetsOfBlock 34 = .ok (.getfield 20, 3) := by decide +kernel
theorem dX2_packetsOfBlock_37 : decode cX2_packetsOfBlock 37 = .ok (.iload_n 3, 1) := by decide +kernel
theorem dX2_packetsOfBlock_38 : decode cX2_packetsOfBlock 38 = .ok (.invokevirtual 116, 3) := by decide +kernel
theorem dX2_packetsOfBlock_41 : decode cX2_packetsOfBlock 41 = .ok (.aload_n 0, 1) := by decide +kernel
theorem dX2_packetsOfBlock_42 : decode cX2_packetsOfBlock 42 = .ok (.getfield 20, 3) := by decide +kernel
theorem dX2_packetsOfBlock_45 : decode cX2_packetsOfBlock 45 = .ok (.iload_n 1, 1) := by decide +kernel
theorem dX2_packetsOfBlock_46 : decode cX2_packetsOfBlock 46 = .ok (.invokevirtual 116, 3) := by decide +kernel
theorem dX2_packetsOfBlock_49 : decode cX2_packetsOfBlock 49 = .ok (.if_icmp .eq 6, 3) := by decide +kernel
theorem dX2_packetsOfBlock_52 : decode cX2_packetsOfBlock 52 = .ok (.goto 12, 3) := by decide +kernel
theorem dX2_packetsOfBlock_55 : decode cX2_packetsOfBlock 55 = .ok (.iinc 2 1, 3) := by decide +kernel
theorem dX2_packetsOfBlock_58 : decode cX2_packetsOfBlock 58 = .ok (.iinc 3 1, 3) := by decide +kernel
theorem dX2_packetsOfBlock_61 : decode cX2_packetsOfBlock 61 = .ok (.goto (-55), 3) := by decide +kernel
theorem dX2_packetsOfBlock_64 : decode cX2_packetsOfBlock 64 = .ok (.iload_n 2, 1) := by decide +kernel
theorem dX2_packetsOfBlock_65 : decode cX2_packetsOfBlock 65 = .ok (.ireturn, 1) := by decide +kernel
set_option maxRecDepth 20000 in
theorem ggX2_putBlock_X8_empty : GoodIn wsX2_putBlock wsX8_empty := goodIn_r _ [11, 12, 13, 83, 84, 85, 86] (by decide +kernel) (by decide +kernel)
set_option maxRecDepth 20000 in
theorem gX2_putBlock_X8_empty : GoodIn wsX2_putBlock (wsV RX2 119 RX8 yX8_empty wsX8_empty) := goodIn_app (goodIn_of _ (by decide +kernel)) ggX2_putBlock_X8_empty
set_option maxRecDepth 20000 in
theorem ggX2_putBlock_X8_add : GoodIn wsX2_putBlock wsX8_add := goodIn_r _ [17, 12, 18, 13, 19, 20, 21, 10, 22, 23, 83, 84, 85, 86] (by decide +kernel) (by decide +kernel)
set_option maxRecDepth 20000 in
theorem gX2_putBlock_X8_add : GoodIn wsX2_putBlock (wsV RX2 59 RX8 yX8_add wsX8_add) := goodIn_app (goodIn_of _ (by decide +kernel)) ggX2_putBlock_X8_add
set_option maxRecDepth 20000 in
theorem ggX2_putBlock_X8_addHighFirst : GoodIn wsX2_putBlock wsX8_addHighFirst := goodIn_r _ [27, 28, 15, 16, 10, 17, 12, 18, 13, 19, 20, 21, 22, 23, 83, 84, 85, 86] (by decide +kernel) (by decide +kernel)
set_option maxRecDepth 20000 in
theorem gX2_putBlock_X8_addHighFirst : GoodIn wsX2_putBlock (wsV RX2 100 RX8 yX8_addHighFirst wsX8_addHighFirst) := goodIn_app (goodIn_of _ (by decide +kernel)) ggX2_putBlock_X8_addHighFirst
set_option maxRecDepth 20000 in
theorem ggX2_putBlock_X4_bytesOf : GoodIn wsX2_putBlock wsX4_bytesOf := goodIn_r _ [33, 34, 35, 36, 37, 32, 38, 39, 40, 41, 42, 43, 87, 88, 89, 90] (by decide +kernel) (by decide +kernel)
set_option maxRecDepth 20000 in
theorem gX2_putBlock_X4_bytesOf : GoodIn wsX2_putBlock (wsV RX2 116 RX4 yX4_bytesOf wsX4_bytesOf) := goodIn_app (goodIn_of _ (by decide +kernel)) ggX2_putBlock_X4_bytesOf
set_option maxRecDepth 20000 in
theorem ggX2_putBlock_X2_putSummedSize : GoodIn wsX2_putBlock wsX2_putSummedSize := goodIn_r _ [48, 2, 14, 15, 16, 10, 17, 12, 18, 13, 19, 20, 21, 22, 23, 77, 78, 79, 80, 81, 82, 83, 84, 85, 86] (by decide +kernel) (by decide +kernel)
set_option maxRecDepth 20000 in
theorem gX2_putBlock_X2_putSummedSize : GoodIn wsX2_putBlock (wsV RX2 122 RX2 yX2_putSummedSize wsX2_putSummedSize) := goodIn_app (goodIn_of _ (by decide +kernel)) ggX2_putBlock_X2_putSummedSize
set_option maxRecDepth 20000 in
theorem ggX2_putBlock_X2_putSize : GoodIn wsX2_putBlock wsX2_putSize := goodIn_r _ [51, 52, 53, 54, 55, 56, 24, 25, 26, 10, 27, 28, 15, 16, 17, 12, 18, 13, 19, 20, 21, 22, 23, 83, 84, 85, 86] (by decide +kernel) (by decide +kernel)
set_option maxRecDepth 20000 in
theorem gX2_putBlock_X2_putSize : GoodIn wsX2_putBlock (va_wsS RX2 112 yX2_putSize wsX2_putSize) := goodIn_app (goodIn_of _ (by decide +kernel)) ggX2_putBlock_X2_putSize
set_option maxRecDepth 20000 in
theorem ggX2_putBlock_X2_putDifference : GoodIn wsX2_putBlock wsX2_putDifference := goodIn_r _ [60, 61, 62, 63, 64, 2, 65, 66, 54, 67, 24, 25, 26, 10, 27, 28, 15, 16, 17, 12, 18, 13, 19, 20, 21, 22, 23, 77, 78, 79, 80, 81, 82, 83, 84, 85, 86] (by decide +kernel) (by decide +kernel)
set_option maxRecDepth 20000 in
theorem gX2_putBlock_X2_putDifference : GoodIn wsX2_putBlock (wsV RX2 125 RX2 yX2_putDifference wsX2_putDifference) := goodIn_app (goodIn_of _ (by decide +kernel)) ggX2_putBlock_X2_putDifference
set_option maxRecDepth 20000 in
theorem ggX2_putBlock_X4_beginOf : GoodIn wsX2_putBlock wsX4_beginOf := goodIn_r _ [43, 34, 35, 36, 37, 32, 38, 39, 87, 88, 89, 90] (by decide +kernel) (by decide +kernel)
set_option maxRecDepth 20000 in
theorem gX2_putBlock_X4_beginOf : GoodIn wsX2_putBlock (wsV RX2 128 RX4 yX4_beginOf wsX4_beginOf) := goodIn_app (goodIn_of _ (by decide +kernel)) ggX2_putBlock_X4_beginOf
set_option maxRecDepth 20000 in
theorem ggX2_putBlock_X8_addPart : GoodIn wsX2_putBlock wsX8_addPart := goodIn_r _ [72, 73, 74, 75, 10, 76, 12, 23, 28, 15, 16, 17, 18, 13, 19, 20, 21, 22, 83, 84, 85, 86] (by decide +kernel) (by decide +kernel)
set_option maxRecDepth 20000 in
theorem gX2_putBlock_X8_addPart : GoodIn wsX2_putBlock (wsV RX2 131 RX8 yX8_addPart wsX8_addPart) := goodIn_app (goodIn_of _ (by decide +kernel)) ggX2_putBlock_X8_addPart
theorem dX2_putBlock_0 : decode cX2_putBlock 0 = .ok (.iload_n 2, 1) := by decide +kernel
theorem dX2_putBlock_1 : decode cX2_putBlock 1 = .ok (.iconst 1, 1) := by decide +kernel
theorem dX2_putBlock_2 : decode cX2_putBlock 2 = .ok (.if_icmp .ne 7, 3) := by decide +kernel
theorem dX2_putBlock_5 : decode cX2_putBlock 5 = .ok (.iconst 0, 1) := by decide +kernel
theorem dX2_putBlock_6 : decode cX2_putBlock 6 = .ok (.goto 7, 3) := by decide +kernel
theorem dX2_putBlock_9 : decode cX2_putBlock 9 = .ok (.aload_n 0, 1) := by decide +kernel
theorem dX2_putBlock_10 : decode cX2_putBlock 10 = .ok (.getfield 27, 3) := by decide +kernel
theorem dX2_putBlock_13 : decode cX2_putBlock 13 = .ok (.istore 5, 2) := by decide +kernel
theorem dX2_putBlock_15 : decode cX2_putBlock 15 = .ok (.aload_n 0, 1) := by decide +kernel
theorem dX2_putBlock_16 : decode cX2_putBlock 16 = .ok (.getfield 16, 3) := by decide +kernel
theorem dX2_putBlock_19 : decode cX2_putBlock 19 = .ok (.invokevirtual 119, 3) := by decide +kernel
theorem dX2_putBlock_22 : decode cX2_putBlock 22 = .ok (.aload_n 0, 1) := by decide +kernel
theorem dX2_putBlock_23 : decode cX2_putBlock 23 = .ok (.getfield 16, 3) := by decide +kernel
theorem dX2_putBlock_26 : decode cX2_putBlock 26 = .ok (.sipush 129, 3) := by decide +kernel
theorem dX2_putBlock_29 : decode cX2_putBlock 29 = .ok (.invokevirtual 59, 3) := by decide +kernel
theorem dX2_putBlock_32 : decode cX2_putBlock 32 = .ok (.aload_n 0, 1) := by decide +kernel
theorem dX2_putBlock_33 : decode cX2_putBlock 33 = .ok (.getfield 16, 3) := by decide +kernel
theorem dX2_putBlock_36 : decode cX2_putBlock 36 = .ok (.lload_n 3, 1) := by decide +kernel
theorem dX2_putBlock_37 : decode cX2_putBlock 37 = .ok (.iconst 2, 1) := by decide +kernel
theorem dX2_putBlock_38 : decode cX2_putBlock 38 = .ok (.invokevirtual 100, 3) := by decide +kernel
theorem dX2_putBlock_41 : decode cX2_putBlock 41 = .ok (.aload_n 0, 1) := by decide +kernel
theorem dX2_putBlock_42 : decode cX2_putBlock 42 = .ok (.getfield 16, 3) := by decide +kernel
theorem dX2_putBlock_45 : decode cX2_putBlock 45 = .ok (.sipush 128, 3) := by decide +kernel
theorem dX2_putBlock_48 : decode cX2_putBlock 48 = .ok (.iload 5, 2) := by decide +kernel
theorem dX2_putBlock_50 : decode cX2_putBlock 50 = .ok (.iconst 1, 1) := by decide +kernel
theorem dX2_putBlock_51 : decode cX2_putBlock 51 = .ok (.ishl, 1) := by decide +kernel
theorem dX2_putBlock_52 : decode cX2_putBlock 52 = .ok (.ior, 1) := by decide +kernel
theorem dX2_putBlock_53 : decode cX2_putBlock 53 = .ok (.invokevirtual 59, 3) := by decide +kernel
theorem dX2_putBlock_56 : decode cX2_putBlock 56 = .ok (.iload 5, 2) := by decide +kernel
theorem dX2_putBlock_58 : decode cX2_putBlock 58 = .ok (.ifCond .eq 13, 3) := by decide +kernel
theorem dX2_putBlock_61 : decode cX2_putBlock 61 = .ok (.aload_n 0, 1) := by decide +kernel
theorem dX2_putBlock_62 : decode cX2_putBlock 62 = .ok (.getfield 16, 3) := by decide +kernel
theorem dX2_putBlock_65 : decode cX2_putBlock 65 = .ok (.iload_n 2, 1) := by decide +kernel
theorem dX2_putBlock_66 : decode cX2_putBlock 66 = .ok (.iconst 1, 1) := by decide +kernel
theorem dX2_putBlock_67 : decode cX2_putBlock 67 = .ok (.isub, 1) := by decide +kernel
theorem dX2_putBlock_68 : decode cX2_putBlock 68 = .ok (.invokevirtual 59, 3) := by decide +kernel
theorem dX2_putBlock_71 : decode cX2_putBlock 71 = .ok (.iload_n 1, 1) := by decide +kernel
theorem dX2_putBlock_72 : decode cX2_putBlock 72 = .ok (.istore 6, 2) := by decide +kernel
theorem dX2_putBlock_74 : decode cX2_putBlock 74 = .ok (.iload 6, 2) := by decide +kernel
theorem dX2_putBlock_76 : decode cX2_putBlock 76 = .ok (.iload_n 1, 1) := by decide +kernel
theorem dX2_putBlock_77 : decode cX2_putBlock 77 = .ok (.iload_n 2, 1) := by decide +kernel
theorem dX2_putBlock_78 : decode cX2_putBlock 78 = .ok (.iadd, 1) := by decide +kernel
theorem dX2_putBlock_79 : decode cX2_putBlock 79 = .ok (.iconst 1, 1) := by decide +kernel
theorem dX2_putBlock_80 : decode cX2_putBlock 80 = .ok (.isub, 1) := by decide +kernel
theorem dX2_putBlock_81 : decode cX2_putBlock 81 = .ok (.if_icmp .ge 95, 3) := by decide +kernel
theorem dX2_putBlock_84 : decode cX2_putBlock 84 = .ok (.iload 5, 2) := by decide +kernel
theorem dX2_putBlock_86 : decode cX2_putBlock 86 = .ok (.iconst 1, 1) := by decide +kernel
theorem dX2_putBlock_87 : decode cX2_putBlock 87 = .ok (.if_icmp .ne 19, 3) := by decide +kernel
theorem dX2_putBlock_90 : decode cX2_putBlock 90 = .ok (.aload_n 0, 1) := by decide +kernel
theorem dX2_putBlock_91 : decode cX2_putBlock 91 = .ok (.aload_n 0, 1) := by decide +kernel
theorem dX2_putBlock_92 : decode cX2_putBlock 92 = .ok (.getfield 20, 3) := by decide +kernel
theorem dX2_putBlock_95 : decode cX2_putBlock 95 = .ok (.iload 6, 2) := by decide +kernel
theorem dX2_putBlock_97 : decode cX2_putBlock 97 = .ok (.invokevirtual 116, 3) := by decide +kernel
theorem dX2_putBlock_100 : decode cX2_putBlock 100 = .ok (.invokevirtual 122, 3) := by decide +kernel
theorem dX2_putBlock_103 : decode cX2_putBlock 103 = .ok (.goto 67, 3) := by decide +kernel
theorem dX2_putBlock_106 : decode cX2_putBlock 106 = .ok (.iload 5, 2) := by decide +kernel
theorem dX2_putBlock_108 : decode cX2_putBlock 108 = .ok (.iconst 3, 1) := by decide +kernel
theorem dX2_putBlock_109 : decode cX2_putBlock 109 = .ok (.if_icmp .ne 29, 3) := by decide +kernel
theorem dX2_putBlock_112 : decode cX2_putBlock 112 = .ok (.iload 6, 2) := by decide +kernel
theorem dX2_putBlock_114 : decode cX2_putBlock 114 = .ok (.iload_n 1, 1) := by decide +kernel
theorem dX2_putBlock_115 : decode cX2_putBlock 115 = .ok (.if_icmp .ne 23, 3) := by decide +kernel
theorem dX2_putBlock_118 : decode cX2_putBlock 118 = .ok (.aload_n 0, 1) := by decide +kernel
theorem dX2_putBlock_119 : decode cX2_putBlock 119 = .ok (.getfield 16, 3) := by decide +kernel
theorem dX2_putBlock_122 : decode cX2_putBlock 122 = .ok (.aload_n 0, 1) := by decide +kernel
theorem dX2_putBlock_123 : decode cX2_putBlock 123 = .ok (.getfield 20, 3) := by decide +kernel
theorem dX2_putBlock_126 : decode cX2_putBlock 126 = .ok (.iload 6, 2) := by decide +kernel
theorem dX2_putBlock_128 : decode cX2_putBlock 128 = .ok (.invokevirtual 116, 3) := by decide +kernel
theorem dX2_putBlock_131 : decode cX2_putBlock 131 = .ok (.i2l, 1) := by decide +kernel
theorem dX2_putBlock_132 : decode cX2_putBlock 132 = .ok (.invokestatic 112, 3) := by decide +kernel
theorem dX2_putBlock_135 : decode cX2_putBlock 135 = .ok (.goto 35, 3) := by decide +kernel
theorem dX2_putBlock_138 : decode cX2_putBlock 138 = .ok (.iload 5, 2) := by decide +kernel
theorem dX2_putBlock_140 : decode cX2_putBlock 140 = .ok (.iconst 3, 1) := by decide +kernel
theorem dX2_putBlock_141 : decode cX2_putBlock 141 = .ok (.if_icmp .ne 29, 3) := by decide +kernel
theorem dX2_putBlock_144 : decode cX2_putBlock 144 = .ok (.aload_n 0, 1) := by decide +kernel
theorem dX2_putBlock_145 : decode cX2_putBlock 145 = .ok (.aload_n 0, 1) := by decide +kernel
theorem dX2_putBlock_146 : decode cX2_putBlock 146 = .ok (.getfield 20, 3) := by decide +kernel
theorem dX2_putBlock_149 : decode cX2_putBlock 149 = .ok (.iload 6, 2) := by decide +kernel
theorem dX2_putBlock_151 : decode cX2_putBlock 151 = .ok (.invokevirtual 116, 3) := by decide +kernel
theorem dX2_putBlock_154 : decode cX2_putBlock 154 = .ok (.aload_n 0, 1) := by decide +kernel
theorem dX2_putBlock_155 : decode cX2_putBlock 155 = .ok (.getfield 20, 3) := by decide +kernel
theorem dX2_putBlock_158 : decode cX2_putBlock 158 = .ok (.iload 6, 2) := by decide +kernel
theorem dX2_putBlock_160 : decode cX2_putBlock 160 = .ok (.iconst 1, 1) := by decide +kernel
theorem dX2_putBlock_161 : decode cX2_putBlock 161 = .ok (.isub, 1) := by decide +kernel
theorem dX2_putBlock_162 : decode cX2_putBlock 162 = .ok (.invokevirtual 116, 3) := by decide +kernel
theorem dX2_putBlock_165 : decode cX2_putBlock 165 = .ok (.isub, 1) := by decide +kernel
theorem dX2_putBlock_166 : decode cX2_putBlock 166 = .ok (.i2l, 1) := by decide +kernel
theorem dX2_putBlock_167 : decode cX2_putBlock 167 = .ok (.invokevirtual 125, 3) := by decide +kernel
theorem dX2_putBlock_170 : decode cX2_putBlock 170 = .ok (.iinc 6 1, 3) := by decide +kernel
theorem dX2_putBlock_173 : decode cX2_putBlock 173 = .ok (.goto (-99), 3) := by decide +kernel
theorem dX2_putBlock_176 : decode cX2_putBlock 176 = .ok (.aload_n 0, 1) := by decide +kernel
theorem dX2_putBlock_177 : decode cX2_putBlock 177 = .ok (.getfield 20, 3) := by decide +kernel
theorem dX2_putBlock_180 : decode cX2_putBlock 180 = .ok (.iload_n 1, 1) := by decide +kernel
theorem dX2_putBlock_181 : decode cX2_putBlock 181 = .ok (.invokevirtual 128, 3) := by decide +kernel
theorem dX2_putBlock_184 : decode cX2_putBlock 184 = .ok (.istore 6, 2) := by decide +kernel
theorem dX2_putBlock_186 : decode cX2_putBlock 186 = .ok (.aload_n 0, 1) := by decide +kernel
theorem dX2_putBlock_187 : decode cX2_putBlock 187 = .ok (.getfield 20, 3) := by decide +kernel
theorem dX2_putBlock_190 : decode cX2_putBlock 190 = .ok (.iload_n 1, 1) := by decide +kernel
theorem dX2_putBlock_191 : decode cX2_putBlock 191 = .ok (.iload_n 2, 1) := by decide +kernel
theorem dX2_putBlock_192 : decode cX2_putBlock 192 = .ok (.iadd, 1) := by decide +kernel
theorem dX2_putBlock_193 : decode cX2_putBlock 193 = .ok (.invokevirtual 128, 3) := by decide +kernel
theorem dX2_putBlock_196 : decode cX2_putBlock 196 = .ok (.iload 6, 2) := by decide +kernel
theorem dX2_putBlock_198 : decode cX2_putBlock 198 = .ok (.isub, 1) := by decide +kernel
theorem dX2_putBlock_199 : decode cX2_putBlock 199 = .ok (.istore 7, 2) := by decide +kernel
theorem dX2_putBlock_201 : decode cX2_putBlock 201 = .ok (.aload_n 0, 1) := by decide +kernel
theorem dX2_putBlock_202 : decode cX2_putBlock 202 = .ok (.getfield 24, 3) := by decide +kernel
theorem dX2_putBlock_205 : decode cX2_putBlock 205 = .ok (.sipush 163, 3) := by decide +kernel
theorem dX2_putBlock_208 : decode cX2_putBlock 208 = .ok (.invokevirtual 59, 3) := by decide +kernel
theorem dX2_putBlock_211 : decode cX2_putBlock 211 = .ok (.aload_n 0, 1) := by decide +kernel
theorem dX2_putBlock_212 : decode cX2_putBlock 212 = .ok (.getfield 24, 3) := by decide +kernel
theorem dX2_putBlock_215 : decode cX2_putBlock 215 = .ok (.aload_n 0, 1) := by decide +kernel
theorem dX2_putBlock_216 : decode cX2_putBlock 216 = .ok (.getfield 16, 3) := by decide +kernel
theorem dX2_putBlock_219 : decode cX2_putBlock 219 = .ok (.getfield 104, 3) := by decide +kernel
theorem dX2_putBlock_222 : decode cX2_putBlock 222 = .ok (.iload 7, 2) := by decide +kernel
theorem dX2_putBlock_224 : decode cX2_putBlock 224 = .ok (.iadd, 1) := by decide +kernel
theorem dX2_putBlock_225 : decode cX2_putBlock 225 = .ok (.i2l, 1) := by decide +kernel
theorem dX2_putBlock_226 : decode cX2_putBlock 226 = .ok (.invokestatic 112, 3) := by decide +kernel
theorem dX2_putBlock_229 : decode cX2_putBlock 229 = .ok (.aload_n 0, 1) := by decide +kernel
theorem dX2_putBlock_230 : decode cX2_putBlock 230 = .ok (.getfield 24, 3) := by decide +kernel
theorem dX2_putBlock_233 : decode cX2_putBlock 233 = .ok (.aload_n 0, 1) := by decide +kernel
theorem dX2_putBlock_234 : decode cX2_putBlock 234 = .ok (.getfield 16, 3) := by decide +kernel
theorem dX2_putBlock_237 : decode cX2_putBlock 237 = .ok (.iconst 0, 1) := by decide +kernel
theorem dX2_putBlock_238 : decode cX2_putBlock 238 = .ok (.aload_n 0, 1) := by decide +kernel
theorem dX2_putBlock_239 : decode cX2_putBlock 239 = .ok (.getfield 16, 3) := by decide +kernel
theorem dX2_putBlock_242 : decode cX2_putBlock 242 = .ok (.getfield 104, 3) := by decide +kernel
theorem dX2_putBlock_245 : decode cX2_putBlock 245 = .ok (.invokevirtual 131, 3) := by decide +kernel
theorem dX2_putBlock_248 : decode cX2_putBlock 248 = .ok (.aload_n 0, 1) := by decide +kernel
theorem dX2_putBlock_249 : decode cX2_putBlock 249 = .ok (.getfield 24, 3) := by decide +kernel
theorem dX2_putBlock_252 : decode cX2_putBlock 252 = .ok (.aload_n 0, 1) := by decide +kernel
theorem dX2_putBlock_253 : decode cX2_putBlock 253 = .ok (.getfield 20, 3) := by decide +kernel
theorem dX2_putBlock_256 : decode cX2_putBlock 256 = .ok (.getfield 135, 3) := by decide +kernel
theorem dX2_putBlock_259 : decode cX2_putBlock 259 = .ok (.iload 6, 2) := by decide +kernel
theorem dX2_putBlock_261 : decode cX2_putBlock 261 = .ok (.iload 7, 2) := by decide +kernel
theorem dX2_putBlock_263 : decode cX2_putBlock 263 = .ok (.invokevirtual 131, 3) := by decide +kernel
theorem dX2_putBlock_266 : decode cX2_putBlock 266 = .ok (.return_, 1) := by decide +kernel
set_option maxRecDepth 20000 in
theorem ggX2_putSummedSize_X8_add : GoodIn wsX2_putSummedSize wsX8_add := goodIn_r _ [6, 7, 8, 9, 10, 11, 12, 5, 13, 14, 21, 22, 23, 24] (by decide +kernel) (by decide +kernel)
set_option maxRecDepth 20000 in
theorem gX2_putSummedSize_X8_add : GoodIn wsX2_putSummedSize (wsV RX2 59 RX8 yX8_add wsX8_add) := goodIn_app (goodIn_of _ (by decide +kernel)) ggX2_putSummedSize_X8_add
theorem dX2_putSummedSize_0 : decode cX2_putSummedSize 0 = .ok (.iload_n 1, 1) := by decide +kernel
theorem dX2_putSummedSize_1 : decode cX2_putSummedSize 1 = .ok (.sipush 255, 3) := by decide +kernel
theorem dX2_putSummedSize_4 : decode cX2_putSummedSize 4 = .ok (.idiv, 1) := by decide +kernel
theorem dX2_putSummedSize_5 : decode cX2_putSummedSize 5 = .ok (.istore_n 2, 1) := by decide +kernel
theorem dX2_putSummedSize_6 : decode cX2_putSummedSize 6 = .ok (.iconst 0, 1) := by decide +kernel
theorem dX2_putSummedSize_7 : decode cX2_putSummedSize 7 = .ok (.istore_n 3, 1) := by decide +kernel
theorem dX2_putSummedSize_8 : decode cX2_putSummedSize 8 = .ok (.iload_n 3, 1) := by decide +kernel
theorem dX2_putSummedSize_9 : decode cX2_putSummedSize 9 = .ok (.iload_n 2, 1) := by decide +kernel
theorem dX2_putSummedSize_10 : decode cX2_putSummedSize 10 = .ok (.if_icmp .ge 19, 3) := by decide +kernel
theorem dX2_putSummedSize_13 : decode cX2_putSummedSize 13 = .ok (.aload_n 0, 1) := by decide +kernel
theorem dX2_putSummedSize_14 : decode cX2_putSummedSize 14 = .ok (.getfield 16, 3) := by decide +kernel
theorem dX2_putSummedSize_17 : decode cX2_putSummedSize 17 = .ok (.sipush 255, 3) := by decide +kernel
theorem dX2_putSummedSize_20 : decode cX2_putSummedSize 20 = .ok (.invokevirtual 59, 3) := by decide +kernel
theorem dX2_putSummedSize_23 : decode cX2_putSummedSize 23 = .ok (.iinc 3 1, 3) := by decide +kernel
theorem dX2_putSummedSize_26 : decode cX2_putSummedSize 26 = .ok (.goto (-18), 3) := by decide +kernel
