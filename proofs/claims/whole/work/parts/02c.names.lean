theorem dX2_putSummedSize_29 : decode cX2_putSummedSize 29 = .ok (.aload_n 0, 1) := by decide +kernel
theorem dX2_putSummedSize_30 : decode cX2_putSummedSize 30 = .ok (.getfield 16, 3) := by decide +kernel
theorem dX2_putSummedSize_33 : decode cX2_putSummedSize 33 = .ok (.iload_n 1, 1) := by decide +kernel
theorem dX2_putSummedSize_34 : decode cX2_putSummedSize 34 = .ok (.sipush 255, 3) := by decide +kernel
theorem dX2_putSummedSize_37 : decode cX2_putSummedSize 37 = .ok (.iload_n 2, 1) := by decide +kernel
theorem dX2_putSummedSize_38 : decode cX2_putSummedSize 38 = .ok (.imul, 1) := by decide +kernel
theorem dX2_putSummedSize_39 : decode cX2_putSummedSize 39 = .ok (.isub, 1) := by decide +kernel
theorem dX2_putSummedSize_40 : decode cX2_putSummedSize 40 = .ok (.invokevirtual 59, 3) := by decide +kernel
theorem dX2_putSummedSize_43 : decode cX2_putSummedSize 43 = .ok (.return_, 1) := by decide +kernel
set_option maxRecDepth 20000 in
theorem ggX2_putDifference_X0_differenceShift : GoodIn wsX2_putDifference wsX0_differenceShift := goodIn_r _ [9] (by decide +kernel) (by decide +kernel)
set_option maxRecDepth 20000 in
theorem gX2_putDifference_X0_differenceShift : GoodIn wsX2_putDifference (va_wsS RX2 144 yX0_differenceShift wsX0_differenceShift) := goodIn_app (goodIn_of _ (by decide +kernel)) ggX2_putDifference_X0_differenceShift
set_option maxRecDepth 20000 in
theorem ggX2_putDifference_X8_addHighFirst : GoodIn wsX2_putDifference wsX8_addHighFirst := goodIn_r _ [14, 15, 16, 17, 13, 18, 19, 20, 21, 22, 23, 24, 25, 26, 33, 34, 35, 36] (by decide +kernel) (by decide +kernel)
set_option maxRecDepth 20000 in
theorem gX2_putDifference_X8_addHighFirst : GoodIn wsX2_putDifference (wsV RX2 100 RX8 yX8_addHighFirst wsX8_addHighFirst) := goodIn_app (goodIn_of _ (by decide +kernel)) ggX2_putDifference_X8_addHighFirst
theorem dX2_putDifference_0 : decode cX2_putDifference 0 = .ok (.iconst 1, 1) := by decide +kernel
theorem dX2_putDifference_1 : decode cX2_putDifference 1 = .ok (.istore_n 3, 1) := by decide +kernel
theorem dX2_putDifference_2 : decode cX2_putDifference 2 = .ok (.iload_n 3, 1) := by decide +kernel
theorem dX2_putDifference_3 : decode cX2_putDifference 3 = .ok (.bipush 8, 2) := by decide +kernel
theorem dX2_putDifference_5 : decode cX2_putDifference 5 = .ok (.if_icmp .ge 21, 3) := by decide +kernel
theorem dX2_putDifference_8 : decode cX2_putDifference 8 = .ok (.lload_n 1, 1) := by decide +kernel
theorem dX2_putDifference_9 : decode cX2_putDifference 9 = .ok (.invokestatic 138, 3) := by decide +kernel
theorem dX2_putDifference_12 : decode cX2_putDifference 12 = .ok (.iload_n 3, 1) := by decide +kernel
theorem dX2_putDifference_13 : decode cX2_putDifference 13 = .ok (.invokestatic 144, 3) := by decide +kernel
theorem dX2_putDifference_16 : decode cX2_putDifference 16 = .ok (.lcmp, 1) := by decide +kernel
theorem dX2_putDifference_17 : decode cX2_putDifference 17 = .ok (.ifCond .le 9, 3) := by decide +kernel
theorem dX2_putDifference_20 : decode cX2_putDifference 20 = .ok (.iinc 3 1, 3) := by decide +kernel
theorem dX2_putDifference_23 : decode cX2_putDifference 23 = .ok (.goto (-21), 3) := by decide +kernel
theorem dX2_putDifference_26 : decode cX2_putDifference 26 = .ok (.lload_n 1, 1) := by decide +kernel
theorem dX2_putDifference_27 : decode cX2_putDifference 27 = .ok (.iload_n 3, 1) := by decide +kernel
theorem dX2_putDifference_28 : decode cX2_putDifference 28 = .ok (.invokestatic 144, 3) := by decide +kernel
theorem dX2_putDifference_31 : decode cX2_putDifference 31 = .ok (.ladd, 1) := by decide +kernel
theorem dX2_putDifference_32 : decode cX2_putDifference 32 = .ok (.lstore 4, 2) := by decide +kernel
theorem dX2_putDifference_34 : decode cX2_putDifference 34 = .ok (.aload_n 0, 1) := by decide +kernel
theorem dX2_putDifference_35 : decode cX2_putDifference 35 = .ok (.getfield 16, 3) := by decide +kernel
theorem dX2_putDifference_38 : decode cX2_putDifference 38 = .ok (.lconst 1, 1) := by decide +kernel
theorem dX2_putDifference_39 : decode cX2_putDifference 39 = .ok (.bipush 7, 2) := by decide +kernel
theorem dX2_putDifference_41 : decode cX2_putDifference 41 = .ok (.iload_n 3, 1) := by decide +kernel
theorem dX2_putDifference_42 : decode cX2_putDifference 42 = .ok (.imul, 1) := by decide +kernel
theorem dX2_putDifference_43 : decode cX2_putDifference 43 = .ok (.lshl, 1) := by decide +kernel
theorem dX2_putDifference_44 : decode cX2_putDifference 44 = .ok (.lload 4, 2) := by decide +kernel
theorem dX2_putDifference_46 : decode cX2_putDifference 46 = .ok (.lor, 1) := by decide +kernel
theorem dX2_putDifference_47 : decode cX2_putDifference 47 = .ok (.iload_n 3, 1) := by decide +kernel
theorem dX2_putDifference_48 : decode cX2_putDifference 48 = .ok (.invokevirtual 100, 3) := by decide +kernel
theorem dX2_putDifference_51 : decode cX2_putDifference 51 = .ok (.return_, 1) := by decide +kernel
set_option maxRecDepth 20000 in
theorem ggX2_putSize_X0_highestSize : GoodIn wsX2_putSize wsX0_highestSize := goodIn_r _ [4, 5] (by decide +kernel) (by decide +kernel)
set_option maxRecDepth 20000 in
theorem gX2_putSize_X0_highestSize : GoodIn wsX2_putSize (va_wsS RX2 147 yX0_highestSize wsX0_highestSize) := goodIn_app (goodIn_of _ (by decide +kernel)) ggX2_putSize_X0_highestSize
set_option maxRecDepth 20000 in
theorem ggX2_putSize_X8_addHighFirst : GoodIn wsX2_putSize wsX8_addHighFirst := goodIn_r _ [10, 11, 12, 13, 9, 14, 15, 16, 17, 18, 19, 20, 21, 22, 23, 24, 25, 26] (by decide +kernel) (by decide +kernel)
set_option maxRecDepth 20000 in
theorem gX2_putSize_X8_addHighFirst : GoodIn wsX2_putSize (wsV RX2 100 RX8 yX8_addHighFirst wsX8_addHighFirst) := goodIn_app (goodIn_of _ (by decide +kernel)) ggX2_putSize_X8_addHighFirst
theorem dX2_putSize_0 : decode cX2_putSize 0 = .ok (.iconst 1, 1) := by decide +kernel
theorem dX2_putSize_1 : decode cX2_putSize 1 = .ok (.istore_n 3, 1) := by decide +kernel
theorem dX2_putSize_2 : decode cX2_putSize 2 = .ok (.iload_n 3, 1) := by decide +kernel
theorem dX2_putSize_3 : decode cX2_putSize 3 = .ok (.bipush 8, 2) := by decide +kernel
theorem dX2_putSize_5 : decode cX2_putSize 5 = .ok (.if_icmp .ge 18, 3) := by decide +kernel
theorem dX2_putSize_8 : decode cX2_putSize 8 = .ok (.lload_n 1, 1) := by decide +kernel
theorem dX2_putSize_9 : decode cX2_putSize 9 = .ok (.iload_n 3, 1) := by decide +kernel
theorem dX2_putSize_10 : decode cX2_putSize 10 = .ok (.invokestatic 147, 3) := by decide +kernel
theorem dX2_putSize_13 : decode cX2_putSize 13 = .ok (.lcmp, 1) := by decide +kernel
theorem dX2_putSize_14 : decode cX2_putSize 14 = .ok (.ifCond .le 9, 3) := by decide +kernel
theorem dX2_putSize_17 : decode cX2_putSize 17 = .ok (.iinc 3 1, 3) := by decide +kernel
theorem dX2_putSize_20 : decode cX2_putSize 20 = .ok (.goto (-18), 3) := by decide +kernel
theorem dX2_putSize_23 : decode cX2_putSize 23 = .ok (.aload_n 0, 1) := by decide +kernel
theorem dX2_putSize_24 : decode cX2_putSize 24 = .ok (.lconst 1, 1) := by decide +kernel
theorem dX2_putSize_25 : decode cX2_putSize 25 = .ok (.bipush 7, 2) := by decide +kernel
theorem dX2_putSize_27 : decode cX2_putSize 27 = .ok (.iload_n 3, 1) := by decide +kernel
theorem dX2_putSize_28 : decode cX2_putSize 28 = .ok (.imul, 1) := by decide +kernel
theorem dX2_putSize_29 : decode cX2_putSize 29 = .ok (.lshl, 1) := by decide +kernel
theorem dX2_putSize_30 : decode cX2_putSize 30 = .ok (.lload_n 1, 1) := by decide +kernel
theorem dX2_putSize_31 : decode cX2_putSize 31 = .ok (.lor, 1) := by decide +kernel
theorem dX2_putSize_32 : decode cX2_putSize 32 = .ok (.iload_n 3, 1) := by decide +kernel
theorem dX2_putSize_33 : decode cX2_putSize 33 = .ok (.invokevirtual 100, 3) := by decide +kernel
theorem dX2_putSize_36 : decode cX2_putSize 36 = .ok (.return_, 1) := by decide +kernel
theorem dX3_init_0 : decode cX3_init 0 = .ok (.aload_n 0, 1) := by decide +kernel
theorem dX3_init_1 : decode cX3_init 1 = .ok (.invokespecial 1, 3) := by decide +kernel
theorem dX3_init_4 : decode cX3_init 4 = .ok (.return_, 1) := by decide +kernel
set_option maxRecDepth 20000 in
theorem ggX4_init_X8_init : GoodIn wsX4_init wsX8_init := goodIn_r _ [14, 15, 2, 3, 16, 17, 18, 19, 20, 8, 21, 22, 23, 24, 25] (by decide +kernel) (by decide +kernel)
set_option maxRecDepth 20000 in
theorem gX4_init_X8_init : GoodIn wsX4_init (wsX8_init) := ggX4_init_X8_init
theorem dX4_init_0 : decode cX4_init 0 = .ok (.aload_n 0, 1) := by decide +kernel
theorem dX4_init_1 : decode cX4_init 1 = .ok (.invokespecial 3, 3) := by decide +kernel
theorem dX4_init_4 : decode cX4_init 4 = .ok (.aload_n 0, 1) := by decide +kernel
theorem dX4_init_5 : decode cX4_init 5 = .ok (.new 9, 3) := by decide +kernel
theorem dX4_init_8 : decode cX4_init 8 = .ok (.dup, 1) := by decide +kernel
theorem dX4_init_9 : decode cX4_init 9 = .ok (.sipush 2400, 3) := by decide +kernel
theorem dX4_init_12 : decode cX4_init 12 = .ok (.invokespecial 11, 3) := by decide +kernel
theorem dX4_init_15 : decode cX4_init 15 = .ok (.putfield 14, 3) := by decide +kernel
theorem dX4_init_18 : decode cX4_init 18 = .ok (.aload_n 0, 1) := by decide +kernel
theorem dX4_init_19 : decode cX4_init 19 = .ok (.bipush 64, 2) := by decide +kernel
theorem dX4_init_21 : decode cX4_init 21 = .ok (.newarray .int, 2) := by decide +kernel
theorem dX4_init_23 : decode cX4_init 23 = .ok (.putfield 20, 3) := by decide +kernel
theorem dX4_init_26 : decode cX4_init 26 = .ok (.aload_n 0, 1) := by decide +kernel
theorem dX4_init_27 : decode cX4_init 27 = .ok (.bipush 64, 2) := by decide +kernel
theorem dX4_init_29 : decode cX4_init 29 = .ok (.newarray .long, 2) := by decide +kernel
theorem dX4_init_31 : decode cX4_init 31 = .ok (.putfield 24, 3) := by decide +kernel
theorem dX4_init_34 : decode cX4_init 34 = .ok (.return_, 1) := by decide +kernel
set_option maxRecDepth 20000 in
theorem ggX4_empty_X8_empty : GoodIn wsX4_empty wsX8_empty := goodIn_r _ [7, 8, 9, 14, 15, 16, 17] (by decide +kernel) (by decide +kernel)
set_option maxRecDepth 20000 in
theorem gX4_empty_X8_empty : GoodIn wsX4_empty (wsV RX4 32 RX8 yX8_empty wsX8_empty) := goodIn_app (goodIn_of _ (by decide +kernel)) ggX4_empty_X8_empty
theorem dX4_empty_0 : decode cX4_empty 0 = .ok (.aload_n 0, 1) := by decide +kernel
theorem dX4_empty_1 : decode cX4_empty 1 = .ok (.iconst 0, 1) := by decide +kernel
theorem dX4_empty_2 : decode cX4_empty 2 = .ok (.putfield 28, 3) := by decide +kernel
theorem dX4_empty_5 : decode cX4_empty 5 = .ok (.aload_n 0, 1) := by decide +kernel
theorem dX4_empty_6 : decode cX4_empty 6 = .ok (.getfield 14, 3) := by decide +kernel
theorem dX4_empty_9 : decode cX4_empty 9 = .ok (.invokevirtual 32, 3) := by decide +kernel
theorem dX4_empty_12 : decode cX4_empty 12 = .ok (.return_, 1) := by decide +kernel
theorem dX4_holds_0 : decode cX4_holds 0 = .ok (.iload_n 1, 1) := by decide +kernel
theorem dX4_holds_1 : decode cX4_holds 1 = .ok (.ifCond .lt 15, 3) := by decide +kernel
theorem dX4_holds_4 : decode cX4_holds 4 = .ok (.iload_n 1, 1) := by decide +kernel
theorem dX4_holds_5 : decode cX4_holds 5 = .ok (.aload_n 0, 1) := by decide +kernel
theorem dX4_holds_6 : decode cX4_holds 6 = .ok (.getfield 28, 3) := by decide +kernel
theorem dX4_holds_9 : decode cX4_holds 9 = .ok (.if_icmp .ge 7, 3) := by decide +kernel
theorem dX4_holds_12 : decode cX4_holds 12 = .ok (.iconst 1, 1) := by decide +kernel
theorem dX4_holds_13 : decode cX4_holds 13 = .ok (.goto 4, 3) := by decide +kernel
theorem dX4_holds_16 : decode cX4_holds 16 = .ok (.iconst 0, 1) := by decide +kernel
theorem dX4_holds_17 : decode cX4_holds 17 = .ok (.ireturn, 1) := by decide +kernel
set_option maxRecDepth 20000 in
theorem ggX4_beginOf_X4_holds : GoodIn wsX4_beginOf wsX4_holds := goodIn_r _ [6, 7, 8, 9, 10, 11] (by decide +kernel) (by decide +kernel)
set_option maxRecDepth 20000 in
theorem gX4_beginOf_X4_holds : GoodIn wsX4_beginOf (wsV RX4 35 RX4 yX4_holds wsX4_holds) := goodIn_app (goodIn_of _ (by decide +kernel)) ggX4_beginOf_X4_holds
theorem dX4_beginOf_0 : decode cX4_beginOf 0 = .ok (.aload_n 0, 1) := by decide +kernel
theorem dX4_beginOf_1 : decode cX4_beginOf 1 = .ok (.iload_n 1, 1) := by decide +kernel
theorem dX4_beginOf_2 : decode cX4_beginOf 2 = .ok (.iconst 1, 1) := by decide +kernel
theorem dX4_beginOf_3 : decode cX4_beginOf 3 = .ok (.isub, 1) := by decide +kernel
theorem dX4_beginOf_4 : decode cX4_beginOf 4 = .ok (.invokevirtual 35, 3) := by decide +kernel
theorem dX4_beginOf_7 : decode cX4_beginOf 7 = .ok (.ifCond .eq 14, 3) := by decide +kernel
theorem dX4_beginOf_10 : decode cX4_beginOf 10 = .ok (.aload_n 0, 1) := by decide +kernel
theorem dX4_beginOf_11 : decode cX4_beginOf 11 = .ok (.getfield 20, 3) := by decide +kernel
theorem dX4_beginOf_14 : decode cX4_beginOf 14 = .ok (.iload_n 1, 1) := by decide +kernel
theorem dX4_beginOf_15 : decode cX4_beginOf 15 = .ok (.iconst 1, 1) := by decide +kernel
theorem dX4_beginOf_16 : decode cX4_beginOf 16 = .ok (.isub, 1) := by decide +kernel
theorem dX4_beginOf_17 : decode cX4_beginOf 17 = .ok (.iaload, 1) := by decide +kernel
theorem dX4_beginOf_18 : decode cX4_beginOf 18 = .ok (.goto 4, 3) := by decide +kernel
theorem dX4_beginOf_21 : decode cX4_beginOf 21 = .ok (.iconst 0, 1) := by decide +kernel
theorem dX4_beginOf_22 : decode cX4_beginOf 22 = .ok (.ireturn, 1) := by decide +kernel
set_option maxRecDepth 20000 in
theorem ggX4_bytesOf_X4_holds : GoodIn wsX4_bytesOf wsX4_holds := goodIn_r _ [6, 7, 12, 13, 14, 15] (by decide +kernel) (by decide +kernel)
set_option maxRecDepth 20000 in
theorem gX4_bytesOf_X4_holds : GoodIn wsX4_bytesOf (wsV RX4 35 RX4 yX4_holds wsX4_holds) := goodIn_app (goodIn_of _ (by decide +kernel)) ggX4_bytesOf_X4_holds
set_option maxRecDepth 20000 in
theorem ggX4_bytesOf_X4_beginOf : GoodIn wsX4_bytesOf wsX4_beginOf := goodIn_r _ [11, 1, 2, 3, 4, 5, 6, 7, 12, 13, 14, 15] (by decide +kernel) (by decide +kernel)
set_option maxRecDepth 20000 in
theorem gX4_bytesOf_X4_beginOf : GoodIn wsX4_bytesOf (wsV RX4 39 RX4 yX4_beginOf wsX4_beginOf) := goodIn_app (goodIn_of _ (by decide +kernel)) ggX4_bytesOf_X4_beginOf
theorem dX4_bytesOf_0 : decode cX4_bytesOf 0 = .ok (.aload_n 0, 1) := by decide +kernel
theorem dX4_bytesOf_1 : decode cX4_bytesOf 1 = .ok (.iload_n 1, 1) := by decide +kernel
theorem dX4_bytesOf_2 : decode cX4_bytesOf 2 = .ok (.invokevirtual 35, 3) := by decide +kernel
theorem dX4_bytesOf_5 : decode cX4_bytesOf 5 = .ok (.ifCond .eq 18, 3) := by decide +kernel
theorem dX4_bytesOf_8 : decode cX4_bytesOf 8 = .ok (.aload_n 0, 1) := by decide +kernel
theorem dX4_bytesOf_9 : decode cX4_bytesOf 9 = .ok (.getfield 20, 3) := by decide +kernel
theorem dX4_bytesOf_12 : decode cX4_bytesOf 12 = .ok (.iload_n 1, 1) := by decide +kernel
theorem dX4_bytesOf_13 : decode cX4_bytesOf 13 = .ok (.iaload, 1) := by decide +kernel
theorem dX4_bytesOf_14 : decode cX4_bytesOf 14 = .ok (.aload_n 0, 1) := by decide +kernel
theorem dX4_bytesOf_15 : decode cX4_bytesOf 15 = .ok (.iload_n 1, 1) := by decide +kernel
theorem dX4_bytesOf_16 : decode cX4_bytesOf 16 = .ok (.invokevirtual 39, 3) := by decide +kernel
theorem dX4_bytesOf_19 : decode cX4_bytesOf 19 = .ok (.isub, 1) := by decide +kernel
theorem dX4_bytesOf_20 : decode cX4_bytesOf 20 = .ok (.goto 4, 3) := by decide +kernel
theorem dX4_bytesOf_23 : decode cX4_bytesOf 23 = .ok (.iconst (-1), 1) := by decide +kernel
theorem dX4_bytesOf_24 : decode cX4_bytesOf 24 = .ok (.ireturn, 1) := by decide +kernel
set_option maxRecDepth 20000 in
theorem ggX4_byteOf_X4_bytesOf : GoodIn wsX4_byteOf wsX4_bytesOf := goodIn_r _ [6, 7, 8, 9, 10, 5, 11, 12, 13, 14, 15, 16, 24, 25, 26, 27] (by decide +kernel) (by decide +kernel)
set_option maxRecDepth 20000 in
theorem gX4_byteOf_X4_bytesOf : GoodIn wsX4_byteOf (wsV RX4 43 RX4 yX4_bytesOf wsX4_bytesOf) := goodIn_app (goodIn_of _ (by decide +kernel)) ggX4_byteOf_X4_bytesOf
set_option maxRecDepth 20000 in
theorem ggX4_byteOf_X4_beginOf : GoodIn wsX4_byteOf wsX4_beginOf := goodIn_r _ [16, 7, 8, 9, 10, 5, 11, 12, 24, 25, 26, 27] (by decide +kernel) (by decide +kernel)
set_option maxRecDepth 20000 in
theorem gX4_byteOf_X4_beginOf : GoodIn wsX4_byteOf (wsV RX4 39 RX4 yX4_beginOf wsX4_beginOf) := goodIn_app (goodIn_of _ (by decide +kernel)) ggX4_byteOf_X4_beginOf
set_option maxRecDepth 20000 in
theorem ggX4_byteOf_X8_at : GoodIn wsX4_byteOf wsX8_at := goodIn_r _ [21, 22, 23, 28, 29, 30, 31] (by decide +kernel) (by decide +kernel)
set_option maxRecDepth 20000 in
theorem gX4_byteOf_X8_at : GoodIn wsX4_byteOf (wsV RX4 46 RX8 yX8_at wsX8_at) := goodIn_app (goodIn_of _ (by decide +kernel)) ggX4_byteOf_X8_at
theorem dX4_byteOf_0 : decode cX4_byteOf 0 = .ok (.iload_n 2, 1) := by decide +kernel
theorem dX4_byteOf_1 : decode cX4_byteOf 1 = .ok (.ifCond .lt 12, 3) := by decide +kernel
theorem dX4_byteOf_4 : decode cX4_byteOf 4 = .ok (.iload_n 2, 1) := by decide +kernel
theorem dX4_byteOf_5 : decode cX4_byteOf 5 = .ok (.aload_n 0, 1) := by decide +kernel
theorem dX4_byteOf_6 : decode cX4_byteOf 6 = .ok (.iload_n 1, 1) := by decide +kernel
theorem dX4_byteOf_7 : decode cX4_byteOf 7 = .ok (.invokevirtual 43, 3) := by decide +kernel
theorem dX4_byteOf_10 : decode cX4_byteOf 10 = .ok (.if_icmp .lt 5, 3) := by decide +kernel
theorem dX4_byteOf_13 : decode cX4_byteOf 13 = .ok (.iconst (-1), 1) := by decide +kernel
theorem dX4_byteOf_14 : decode cX4_byteOf 14 = .ok (.ireturn, 1) := by decide +kernel
theorem dX4_byteOf_15 : decode cX4_byteOf 15 = .ok (.aload_n 0, 1) := by decide +kernel
theorem dX4_byteOf_16 : decode cX4_byteOf 16 = .ok (.getfield 14, 3) := by decide +kernel
theorem dX4_byteOf_19 : decode cX4_byteOf 19 = .ok (.aload_n 0, 1) := by decide +kernel
theorem dX4_byteOf_20 : decode cX4_byteOf 20 = .ok (.iload_n 1, 1) := by decide +kernel
theorem dX4_byteOf_21 : decode cX4_byteOf 21 = .ok (.invokevirtual 39, 3) := by decide +kernel
theorem dX4_byteOf_24 : decode cX4_byteOf 24 = .ok (.iload_n 2, 1) := by decide +kernel
theorem dX4_byteOf_25 : decode cX4_byteOf 25 = .ok (.iadd, 1) := by decide +kernel
theorem dX4_byteOf_26 : decode cX4_byteOf 26 = .ok (.invokevirtual 46, 3) := by decide +kernel
theorem dX4_byteOf_29 : decode cX4_byteOf 29 = .ok (.ireturn, 1) := by decide +kernel
set_option maxRecDepth 20000 in
theorem ggX4_timeOf_X4_holds : GoodIn wsX4_timeOf wsX4_holds := goodIn_r _ [7, 8, 9, 10, 11, 12] (by decide +kernel) (by decide +kernel)
set_option maxRecDepth 20000 in
theorem gX4_timeOf_X4_holds : GoodIn wsX4_timeOf (wsV RX4 35 RX4 yX4_holds wsX4_holds) := goodIn_app (goodIn_of _ (by decide +kernel)) ggX4_timeOf_X4_holds
theorem dX4_timeOf_0 : decode cX4_timeOf 0 = .ok (.aload_n 0, 1) := by decide +kernel
theorem dX4_timeOf_1 : decode cX4_timeOf 1 = .ok (.iload_n 1, 1) := by decide +kernel
theorem dX4_timeOf_2 : decode cX4_timeOf 2 = .ok (.invokevirtual 35, 3) := by decide +kernel
theorem dX4_timeOf_5 : decode cX4_timeOf 5 = .ok (.ifCond .eq 12, 3) := by decide +kernel
theorem dX4_timeOf_8 : decode cX4_timeOf 8 = .ok (.aload_n 0, 1) := by decide +kernel
theorem dX4_timeOf_9 : decode cX4_timeOf 9 = .ok (.getfield 24, 3) := by decide +kernel
theorem dX4_timeOf_12 : decode cX4_timeOf 12 = .ok (.iload_n 1, 1) := by decide +kernel
theorem dX4_timeOf_13 : decode cX4_timeOf 13 = .ok (.laload, 1) := by decide +kernel
theorem dX4_timeOf_14 : decode cX4_timeOf 14 = .ok (.goto 6, 3) := by decide +kernel
theorem dX4_timeOf_17 : decode cX4_timeOf 17 = .ok (.ldc2_w 49, 3) := by decide +kernel
theorem dX4_timeOf_20 : decode cX4_timeOf 20 = .ok (.lreturn, 1) := by decide +kernel
set_option maxRecDepth 20000 in
theorem ggX4_timeToWrite_X4_timeOf : GoodIn wsX4_timeToWrite wsX4_timeOf := goodIn_r _ [6, 7, 1, 8, 9, 10, 5, 11, 12, 13, 14, 15, 16] (by decide +kernel) (by decide +kernel)
set_option maxRecDepth 20000 in
theorem gX4_timeToWrite_X4_timeOf : GoodIn wsX4_timeToWrite (wsV RX4 51 RX4 yX4_timeOf wsX4_timeOf) := goodIn_app (goodIn_of _ (by decide +kernel)) ggX4_timeToWrite_X4_timeOf
theorem dX4_timeToWrite_0 : decode cX4_timeToWrite 0 = .ok (.iload_n 1, 1) := by decide +kernel
theorem dX4_timeToWrite_1 : decode cX4_timeToWrite 1 = .ok (.istore_n 2, 1) := by decide +kernel
theorem dX4_timeToWrite_2 : decode cX4_timeToWrite 2 = .ok (.iload_n 2, 1) := by decide +kernel
theorem dX4_timeToWrite_3 : decode cX4_timeToWrite 3 = .ok (.ifCond .lt 27, 3) := by decide +kernel
theorem dX4_timeToWrite_6 : decode cX4_timeToWrite 6 = .ok (.aload_n 0, 1) := by decide +kernel
theorem dX4_timeToWrite_7 : decode cX4_timeToWrite 7 = .ok (.iload_n 2, 1) := by decide +kernel
theorem dX4_timeToWrite_8 : decode cX4_timeToWrite 8 = .ok (.invokevirtual 51, 3) := by decide +kernel
theorem dX4_timeToWrite_11 : decode cX4_timeToWrite 11 = .ok (.ldc2_w 49, 3) := by decide +kernel
theorem dX4_timeToWrite_14 : decode cX4_timeToWrite 14 = .ok (.lcmp, 1) := by decide +kernel
theorem dX4_timeToWrite_15 : decode cX4_timeToWrite 15 = .ok (.ifCond .eq 9, 3) := by decide +kernel
theorem dX4_timeToWrite_18 : decode cX4_timeToWrite 18 = .ok (.aload_n 0, 1) := by decide +kernel
theorem dX4_timeToWrite_19 : decode cX4_timeToWrite 19 = .ok (.iload_n 2, 1) := by decide +kernel
theorem dX4_timeToWrite_20 : decode cX4_timeToWrite 20 = .ok (.invokevirtual 51, 3) := by decide +kernel
theorem dX4_timeToWrite_23 : decode cX4_timeToWrite 23 = .ok (.lreturn, 1) := by decide +kernel
theorem dX4_timeToWrite_24 : decode cX4_timeToWrite 24 = .ok (.iinc 2 (-1), 3) := by decide +kernel
theorem dX4_timeToWrite_27 : decode cX4_timeToWrite 27 = .ok (.goto (-25), 3) := by decide +kernel
theorem dX4_timeToWrite_30 : decode cX4_timeToWrite 30 = .ok (.lconst 0, 1) := by decide +kernel
theorem dX4_timeToWrite_31 : decode cX4_timeToWrite 31 = .ok (.lreturn, 1) := by decide +kernel
set_option maxRecDepth 20000 in
theorem ggX4_isInOrderOfTime_X4_timeOf : GoodIn wsX4_isInOrderOfTime wsX4_timeOf := goodIn_r _ [11, 12, 1, 13, 14, 15, 10, 16, 2, 17, 18, 19, 20] (by decide +kernel) (by decide +kernel)
set_option maxRecDepth 20000 in
theorem gX4_isInOrderOfTime_X4_timeOf : GoodIn wsX4_isInOrderOfTime (wsV RX4 51 RX4 yX4_timeOf wsX4_timeOf) := goodIn_app (goodIn_of _ (by decide +kernel)) ggX4_isInOrderOfTime_X4_timeOf
theorem dX4_isInOrderOfTime_0 : decode cX4_isInOrderOfTime 0 = .ok (.ldc2_w 49, 3) := by decide +kernel
theorem dX4_isInOrderOfTime_3 : decode cX4_isInOrderOfTime 3 = .ok (.lstore_n 1, 1) := by decide +kernel
theorem dX4_isInOrderOfTime_4 : decode cX4_isInOrderOfTime 4 = .ok (.iconst 0, 1) := by decide +kernel
theorem dX4_isInOrderOfTime_5 : decode cX4_isInOrderOfTime 5 = .ok (.istore_n 3, 1) := by decide +kernel
theorem dX4_isInOrderOfTime_6 : decode cX4_isInOrderOfTime 6 = .ok (.iload_n 3, 1) := by decide +kernel
theorem dX4_isInOrderOfTime_7 : decode cX4_isInOrderOfTime 7 = .ok (.aload_n 0, 1) := by decide +kernel
theorem dX4_isInOrderOfTime_8 : decode cX4_isInOrderOfTime 8 = .ok (.getfield 28, 3) := by decide +kernel
theorem dX4_isInOrderOfTime_11 : decode cX4_isInOrderOfTime 11 = .ok (.if_icmp .ge 43, 3) := by decide +kernel
theorem dX4_isInOrderOfTime_14 : decode cX4_isInOrderOfTime 14 = .ok (.aload_n 0, 1) := by decide +kernel
theorem dX4_isInOrderOfTime_15 : decode cX4_isInOrderOfTime 15 = .ok (.iload_n 3, 1) := by decide +kernel
theorem dX4_isInOrderOfTime_16 : decode cX4_isInOrderOfTime 16 = .ok (.invokevirtual 51, 3) := by decide +kernel
theorem dX4_isInOrderOfTime_19 : decode cX4_isInOrderOfTime 19 = .ok (.ldc2_w 49, 3) := by decide +kernel
theorem dX4_isInOrderOfTime_22 : decode cX4_isInOrderOfTime 22 = .ok (.lcmp, 1) := by decide +kernel
theorem dX4_isInOrderOfTime_23 : decode cX4_isInOrderOfTime 23 = .ok (.ifCond .eq 15, 3) := by decide +kernel
theorem dX4_isInOrderOfTime_26 : decode cX4_isInOrderOfTime 26 = .ok (.aload_n 0, 1) := by decide +kernel
theorem dX4_isInOrderOfTime_27 : decode cX4_isInOrderOfTime 27 = .ok (.iload_n 3, 1) := by decide +kernel
theorem dX4_isInOrderOfTime_28 : decode cX4_isInOrderOfTime 28 = .ok (.invokevirtual 51, 3) := by decide +kernel
theorem dX4_isInOrderOfTime_31 : decode cX4_isInOrderOfTime 31 = .ok (.lload_n 1, 1) := by decide +kernel
theorem dX4_isInOrderOfTime_32 : decode cX4_isInOrderOfTime 32 = .ok (.lcmp, 1) := by decide +kernel
theorem dX4_isInOrderOfTime_33 : decode cX4_isInOrderOfTime 33 = .ok (.ifCond .ge 5, 3) := by decide +kernel
theorem dX4_isInOrderOfTime_36 : decode cX4_isInOrderOfTime 36 = .ok (.iconst 0, 1) := by decide +kernel
theorem dX4_isInOrderOfTime_37 : decode cX4_isInOrderOfTime 37 = .ok (.ireturn, 1) := by decide +kernel
theorem dX4_isInOrderOfTime_38 : decode cX4_isInOrderOfTime 38 = .ok (.lload_n 1, 1) := by decide +kernel
theorem dX4_isInOrderOfTime_39 : decode cX4_isInOrderOfTime 39 = .ok (.aload_n 0, 1) := by decide +kernel
theorem dX4_isInOrderOfTime_40 : decode cX4_isInOrderOfTime 40 = .ok (.iload_n 3, 1) := by decide +kernel
theorem dX4_isInOrderOfTime_41 : decode cX4_isInOrderOfTime 41 = .ok (.invokevirtual 51, 3) := by decide +kernel
theorem dX4_isInOrderOfTime_44 : decode cX4_isInOrderOfTime 44 = .ok (.invokestatic 55, 3) := by decide +kernel
theorem dX4_isInOrderOfTime_47 : decode cX4_isInOrderOfTime 47 = .ok (.lstore_n 1, 1) := by decide +kernel
theorem dX4_isInOrderOfTime_48 : decode cX4_isInOrderOfTime 48 = .ok (.iinc 3 1, 3) := by decide +kernel
theorem dX4_isInOrderOfTime_51 : decode cX4_isInOrderOfTime 51 = .ok (.goto (-45), 3) := by decide +kernel
theorem dX4_isInOrderOfTime_54 : decode cX4_isInOrderOfTime 54 = .ok (.iconst 1, 1) := by decide +kernel
theorem dX4_isInOrderOfTime_55 : decode cX4_isInOrderOfTime 55 = .ok (.ireturn, 1) := by decide +kernel
theorem dX4_hasRoom_0 : decode cX4_hasRoom 0 = .ok (.iload_n 1, 1) := by decide +kernel
theorem dX4_hasRoom_1 : decode cX4_hasRoom 1 = .ok (.bipush 64, 2) := by decide +kernel
theorem dX4_hasRoom_3 : decode cX4_hasRoom 3 = .ok (.aload_n 0, 1) := by decide +kernel
theorem dX4_hasRoom_4 : decode cX4_hasRoom 4 = .ok (.getfield 28, 3) := by decide +kernel
theorem dX4_hasRoom_7 : decode cX4_hasRoom 7 = .ok (.isub, 1) := by decide +kernel
theorem dX4_hasRoom_8 : decode cX4_hasRoom 8 = .ok (.if_icmp .gt 22, 3) := by decide +kernel
theorem dX4_hasRoom_11 : decode cX4_hasRoom 11 = .ok (.iload_n 2, 1) := by decide +kernel
theorem dX4_hasRoom_12 : decode cX4_hasRoom 12 = .ok (.sipush 2400, 3) := by decide +kernel
theorem dX4_hasRoom_15 : decode cX4_hasRoom 15 = .ok (.aload_n 0, 1) := by decide +kernel
theorem dX4_hasRoom_16 : decode cX4_hasRoom 16 = .ok (.getfield 14, 3) := by decide +kernel
theorem dX4_hasRoom_19 : decode cX4_hasRoom 19 = .ok (.getfield 61, 3) := by decide +kernel
theorem dX4_hasRoom_22 : decode cX4_hasRoom 22 = .ok (.isub, 1) := by decide +kernel
theorem dX4_hasRoom_23 : decode cX4_hasRoom 23 = .ok (.if_icmp .gt 7, 3) := by decide +kernel
theorem dX4_hasRoom_26 : decode cX4_hasRoom 26 = .ok (.iconst 1, 1) := by decide +kernel
theorem dX4_hasRoom_27 : decode cX4_hasRoom 27 = .ok (.goto 4, 3) := by decide +kernel
theorem dX4_hasRoom_30 : decode cX4_hasRoom 30 = .ok (.iconst 0, 1) := by decide +kernel
theorem dX4_hasRoom_31 : decode cX4_hasRoom 31 = .ok (.ireturn, 1) := by decide +kernel
theorem dX4_endPacket_0 : decode cX4_endPacket 0 = .ok (.aload_n 0, 1) := by decide +kernel
theorem dX4_endPacket_1 : decode cX4_endPacket 1 = .ok (.getfield 28, 3) := by decide +kernel
theorem dX4_endPacket_4 : decode cX4_endPacket 4 = .ok (.bipush 64, 2) := by decide +kernel
theorem dX4_endPacket_6 : decode cX4_endPacket 6 = .ok (.if_icmp .lt 4, 3) := by decide +kernel
theorem dX4_endPacket_9 : decode cX4_endPacket 9 = .ok (.return_, 1) := by decide +kernel
theorem dX4_endPacket_10 : decode cX4_endPacket 10 = .ok (.aload_n 0, 1) := by decide +kernel
theorem dX4_endPacket_11 : decode cX4_endPacket 11 = .ok (.getfield 20, 3) := by decide +kernel
theorem dX4_endPacket_14 : decode cX4_endPacket 14 = .ok (.aload_n 0, 1) := by decide +kernel
theorem dX4_endPacket_15 : decode cX4_endPacket 15 = .ok (.getfield 28, 3) := by decide +kernel
theorem dX4_endPacket_18 : decode cX4_endPacket 18 = .ok (.aload_n 0, 1) := by decide +kernel
theorem dX4_endPacket_19 : decode cX4_endPacket 19 = .ok (.getfield 14, 3) := by decide +kernel
theorem dX4_endPacket_22 : decode cX4_endPacket 22 = .ok (.getfield 61, 3) := by decide +kernel
theorem dX4_endPacket_25 : decode cX4_endPacket 25 = .ok (.iastore, 1) := by decide +kernel
theorem dX4_endPacket_26 : decode cX4_endPacket 26 = .ok (.aload_n 0, 1) := by decide +kernel
theorem dX4_endPacket_27 : decode cX4_endPacket 27 = .ok (.getfield 24, 3) := by decide +kernel
theorem dX4_endPacket_30 : decode cX4_endPacket 30 = .ok (.aload_n 0, 1) := by decide +kernel
theorem dX4_endPacket_31 : decode cX4_endPacket 31 = .ok (.getfield 28, 3) := by decide +kernel
theorem dX4_endPacket_34 : decode cX4_endPacket 34 = .ok (.lload_n 1, 1) := by decide +kernel
theorem dX4_endPacket_35 : decode cX4_endPacket 35 = .ok (.lastore, 1) := by decide +kernel
theorem dX4_endPacket_36 : decode cX4_endPacket 36 = .ok (.aload_n 0, 1) := by decide +kernel
theorem dX4_endPacket_37 : decode cX4_endPacket 37 = .ok (.dup, 1) := by decide +kernel
theorem dX4_endPacket_38 : decode cX4_endPacket 38 = .ok (.getfield 28, 3) := by decide +kernel
theorem dX4_endPacket_41 : decode cX4_endPacket 41 = .ok (.iconst 1, 1) := by decide +kernel
theorem dX4_endPacket_42 : decode cX4_endPacket 42 = .ok (.iadd, 1) := by decide +kernel
theorem dX4_endPacket_43 : decode cX4_endPacket 43 = .ok (.putfield 28, 3) := by decide +kernel
theorem dX4_endPacket_46 : decode cX4_endPacket 46 = .ok (.return_, 1) := by decide +kernel
set_option maxRecDepth 20000 in
theorem ggX5_isMarked_X8_highFirst : GoodIn wsX5_isMarked wsX8_highFirst := goodIn_r _ [6, 7, 8, 9, 5, 10, 11, 12, 13, 14, 15, 16] (by decide +kernel) (by decide +kernel)
set_option maxRecDepth 20000 in
theorem gX5_isMarked_X8_highFirst : GoodIn wsX5_isMarked (wsV RX5 9 RX8 yX8_highFirst wsX8_highFirst) := goodIn_app (goodIn_of _ (by decide +kernel)) ggX5_isMarked_X8_highFirst
theorem dX5_isMarked_0 : decode cX5_isMarked 0 = .ok (.aload_n 0, 1) := by decide +kernel
theorem dX5_isMarked_1 : decode cX5_isMarked 1 = .ok (.iload_n 1, 1) := by decide +kernel
theorem dX5_isMarked_2 : decode cX5_isMarked 2 = .ok (.iconst 4, 1) := by decide +kernel
theorem dX5_isMarked_3 : decode cX5_isMarked 3 = .ok (.invokevirtual 9, 3) := by decide +kernel
theorem dX5_isMarked_6 : decode cX5_isMarked 6 = .ok (.l2i, 1) := by decide +kernel
theorem dX5_isMarked_7 : decode cX5_isMarked 7 = .ok (.ldc 17, 2) := by decide +kernel
theorem dX5_isMarked_9 : decode cX5_isMarked 9 = .ok (.if_icmp .ne 7, 3) := by decide +kernel
theorem dX5_isMarked_12 : decode cX5_isMarked 12 = .ok (.iconst 1, 1) := by decide +kernel
theorem dX5_isMarked_13 : decode cX5_isMarked 13 = .ok (.goto 4, 3) := by decide +kernel
theorem dX5_isMarked_16 : decode cX5_isMarked 16 = .ok (.iconst 0, 1) := by decide +kernel
theorem dX5_isMarked_17 : decode cX5_isMarked 17 = .ok (.ireturn, 1) := by decide +kernel
set_option maxRecDepth 20000 in
theorem ggX5_endOf_X8_at : GoodIn wsX5_endOf wsX8_at := goodIn_r _ [5, 6, 7, 8, 9, 10, 11] (by decide +kernel) (by decide +kernel)
set_option maxRecDepth 20000 in
theorem gX5_endOf_X8_at : GoodIn wsX5_endOf (wsV RX5 18 RX8 yX8_at wsX8_at) := goodIn_app (goodIn_of _ (by decide +kernel)) ggX5_endOf_X8_at
theorem dX5_endOf_0 : decode cX5_endOf 0 = .ok (.iload_n 1, 1) := by decide +kernel
theorem dX5_endOf_1 : decode cX5_endOf 1 = .ok (.ifCond .lt 11, 3) := by decide +kernel
theorem dX5_endOf_4 : decode cX5_endOf 4 = .ok (.iload_n 2, 1) := by decide +kernel
theorem dX5_endOf_5 : decode cX5_endOf 5 = .ok (.iload_n 1, 1) := by decide +kernel
theorem dX5_endOf_6 : decode cX5_endOf 6 = .ok (.isub, 1) := by decide +kernel
theorem dX5_endOf_7 : decode cX5_endOf 7 = .ok (.bipush 27, 2) := by decide +kernel
theorem dX5_endOf_9 : decode cX5_endOf 9 = .ok (.if_icmp .ge 5, 3) := by decide +kernel
theorem dX5_endOf_12 : decode cX5_endOf 12 = .ok (.iconst (-1), 1) := by decide +kernel
theorem dX5_endOf_13 : decode cX5_endOf 13 = .ok (.ireturn, 1) := by decide +kernel
theorem dX5_endOf_14 : decode cX5_endOf 14 = .ok (.aload_n 0, 1) := by decide +kernel
theorem dX5_endOf_15 : decode cX5_endOf 15 = .ok (.iload_n 1, 1) := by decide +kernel
theorem dX5_endOf_16 : decode cX5_endOf 16 = .ok (.bipush 26, 2) := by decide +kernel
theorem dX5_endOf_18 : decode cX5_endOf 18 = .ok (.iadd, 1) := by decide +kernel
theorem dX5_endOf_19 : decode cX5_endOf 19 = .ok (.invokevirtual 18, 3) := by decide +kernel
theorem dX5_endOf_22 : decode cX5_endOf 22 = .ok (.istore_n 3, 1) := by decide +kernel
theorem dX5_endOf_23 : decode cX5_endOf 23 = .ok (.iload_n 1, 1) := by decide +kernel
theorem dX5_endOf_24 : decode cX5_endOf 24 = .ok (.bipush 27, 2) := by decide +kernel
theorem dX5_endOf_26 : decode cX5_endOf 26 = .ok (.iadd, 1) := by decide +kernel
theorem dX5_endOf_27 : decode cX5_endOf 27 = .ok (.iload_n 3, 1) := by decide +kernel
theorem dX5_endOf_28 : decode cX5_endOf 28 = .ok (.iadd, 1) := by decide +kernel
theorem dX5_endOf_29 : decode cX5_endOf 29 = .ok (.istore 4, 2) := by decide +kernel
theorem dX5_endOf_31 : decode cX5_endOf 31 = .ok (.iload 4, 2) := by decide +kernel
theorem dX5_endOf_33 : decode cX5_endOf 33 = .ok (.iload_n 2, 1) := by decide +kernel
theorem dX5_endOf_34 : decode cX5_endOf 34 = .ok (.if_icmp .le 5, 3) := by decide +kernel
theorem dX5_endOf_37 : decode cX5_endOf 37 = .ok (.iconst (-1), 1) := by decide +kernel
theorem dX5_endOf_38 : decode cX5_endOf 38 = .ok (.ireturn, 1) := by decide +kernel
theorem dX5_endOf_39 : decode cX5_endOf 39 = .ok (.iconst 0, 1) := by decide +kernel
theorem dX5_endOf_40 : decode cX5_endOf 40 = .ok (.istore 5, 2) := by decide +kernel
theorem dX5_endOf_42 : decode cX5_endOf 42 = .ok (.iload 5, 2) := by decide +kernel
theorem dX5_endOf_44 : decode cX5_endOf 44 = .ok (.iload_n 3, 1) := by decide +kernel
theorem dX5_endOf_45 : decode cX5_endOf 45 = .ok (.if_icmp .ge 25, 3) := by decide +kernel
theorem dX5_endOf_48 : decode cX5_endOf 48 = .ok (.iload 4, 2) := by decide +kernel
theorem dX5_endOf_50 : decode cX5_endOf 50 = .ok (.aload_n 0, 1) := by decide +kernel
theorem dX5_endOf_51 : decode cX5_endOf 51 = .ok (.iload_n 1, 1) := by decide +kernel
theorem dX5_endOf_52 : decode cX5_endOf 52 = .ok (.bipush 27, 2) := by decide +kernel
theorem dX5_endOf_54 : decode cX5_endOf 54 = .ok (.iadd, 1) := by decide +kernel
theorem dX5_endOf_55 : decode cX5_endOf 55 = .ok (.iload 5, 2) := by decide +kernel
theorem dX5_endOf_57 : decode cX5_endOf 57 = .ok (.iadd, 1) := by decide +kernel
theorem dX5_endOf_58 : decode cX5_endOf 58 = .ok (.invokevirtual 18, 3) := by decide +kernel
theorem dX5_endOf_61 : decode cX5_endOf 61 = .ok (.iadd, 1) := by decide +kernel
theorem dX5_endOf_62 : decode cX5_endOf 62 = .ok (.istore 4, 2) := by decide +kernel
theorem dX5_endOf_64 : decode cX5_endOf 64 = .ok (.iinc 5 1, 3) := by decide +kernel
theorem dX5_endOf_67 : decode cX5_endOf 67 = .ok (.goto (-25), 3) := by decide +kernel
theorem dX5_endOf_70 : decode cX5_endOf 70 = .ok (.iload 4, 2) := by decide +kernel
theorem dX5_endOf_72 : decode cX5_endOf 72 = .ok (.iload_n 2, 1) := by decide +kernel
theorem dX5_endOf_73 : decode cX5_endOf 73 = .ok (.if_icmp .gt 8, 3) := by decide +kernel
theorem dX5_endOf_76 : decode cX5_endOf 76 = .ok (.iload 4, 2) := by decide +kernel
theorem dX5_endOf_78 : decode cX5_endOf 78 = .ok (.goto 4, 3) := by decide +kernel
theorem dX5_endOf_81 : decode cX5_endOf 81 = .ok (.iconst (-1), 1) := by decide +kernel
theorem dX5_endOf_82 : decode cX5_endOf 82 = .ok (.ireturn, 1) := by decide +kernel
set_option maxRecDepth 20000 in
theorem ggX5_sumOf_X8_at : GoodIn wsX5_sumOf wsX8_at := goodIn_r _ [6, 7, 8, 9, 10, 11, 12] (by decide +kernel) (by decide +kernel)
set_option maxRecDepth 20000 in
theorem gX5_sumOf_X8_at : GoodIn wsX5_sumOf (wsV RX5 18 RX8 yX8_at wsX8_at) := goodIn_app (goodIn_of _ (by decide +kernel)) ggX5_sumOf_X8_at
theorem dX5_sumOf_0 : decode cX5_sumOf 0 = .ok (.iconst 0, 1) := by decide +kernel
theorem dX5_sumOf_1 : decode cX5_sumOf 1 = .ok (.istore_n 3, 1) := by decide +kernel
theorem dX5_sumOf_2 : decode cX5_sumOf 2 = .ok (.iload_n 1, 1) := by decide +kernel
theorem dX5_sumOf_3 : decode cX5_sumOf 3 = .ok (.istore 4, 2) := by decide +kernel
theorem dX5_sumOf_5 : decode cX5_sumOf 5 = .ok (.iload 4, 2) := by decide +kernel
theorem dX5_sumOf_7 : decode cX5_sumOf 7 = .ok (.iload_n 2, 1) := by decide +kernel
theorem dX5_sumOf_8 : decode cX5_sumOf 8 = .ok (.if_icmp .ge 93, 3) := by decide +kernel
theorem dX5_sumOf_11 : decode cX5_sumOf 11 = .ok (.iload 4, 2) := by decide +kernel
theorem dX5_sumOf_13 : decode cX5_sumOf 13 = .ok (.iload_n 1, 1) := by decide +kernel
theorem dX5_sumOf_14 : decode cX5_sumOf 14 = .ok (.bipush 22, 2) := by decide +kernel
theorem dX5_sumOf_16 : decode cX5_sumOf 16 = .ok (.iadd, 1) := by decide +kernel
theorem dX5_sumOf_17 : decode cX5_sumOf 17 = .ok (.if_icmp .lt 18, 3) := by decide +kernel
theorem dX5_sumOf_20 : decode cX5_sumOf 20 = .ok (.iload 4, 2) := by decide +kernel
theorem dX5_sumOf_22 : decode cX5_sumOf 22 = .ok (.iload_n 1, 1) := by decide +kernel
theorem dX5_sumOf_23 : decode cX5_sumOf 23 = .ok (.bipush 22, 2) := by decide +kernel
theorem dX5_sumOf_25 : decode cX5_sumOf 25 = .ok (.iadd, 1) := by decide +kernel
theorem dX5_sumOf_26 : decode cX5_sumOf 26 = .ok (.iconst 4, 1) := by decide +kernel
theorem dX5_sumOf_27 : decode cX5_sumOf 27 = .ok (.iadd, 1) := by decide +kernel
theorem dX5_sumOf_28 : decode cX5_sumOf 28 = .ok (.if_icmp .ge 7, 3) := by decide +kernel
theorem dX5_sumOf_31 : decode cX5_sumOf 31 = .ok (.iconst 1, 1) := by decide +kernel
theorem dX5_sumOf_32 : decode cX5_sumOf 32 = .ok (.goto 4, 3) := by decide +kernel
theorem dX5_sumOf_35 : decode cX5_sumOf 35 = .ok (.iconst 0, 1) := by decide +kernel
theorem dX5_sumOf_36 : decode cX5_sumOf 36 = .ok (.istore 5, 2) := by decide +kernel
theorem dX5_sumOf_38 : decode cX5_sumOf 38 = .ok (.iload 5, 2) := by decide +kernel
theorem dX5_sumOf_40 : decode cX5_sumOf 40 = .ok (.ifCond .eq 7, 3) := by decide +kernel
theorem dX5_sumOf_43 : decode cX5_sumOf 43 = .ok (.iconst 0, 1) := by decide +kernel
theorem dX5_sumOf_44 : decode cX5_sumOf 44 = .ok (.goto 9, 3) := by decide +kernel
theorem dX5_sumOf_47 : decode cX5_sumOf 47 = .ok (.aload_n 0, 1) := by decide +kernel
theorem dX5_sumOf_48 : decode cX5_sumOf 48 = .ok (.iload 4, 2) := by decide +kernel
theorem dX5_sumOf_50 : decode cX5_sumOf 50 = .ok (.invokevirtual 18, 3) := by decide +kernel
theorem dX5_sumOf_53 : decode cX5_sumOf 53 = .ok (.istore 6, 2) := by decide +kernel
theorem dX5_sumOf_55 : decode cX5_sumOf 55 = .ok (.iload_n 3, 1) := by decide +kernel
theorem dX5_sumOf_56 : decode cX5_sumOf 56 = .ok (.iconst 4, 1) := by decide +kernel
theorem dX5_sumOf_57 : decode cX5_sumOf 57 = .ok (.ishl, 1) := by decide +kernel
theorem dX5_sumOf_58 : decode cX5_sumOf 58 = .ok (.getstatic 22, 3) := by decide +kernel
theorem dX5_sumOf_61 : decode cX5_sumOf 61 = .ok (.iload_n 3, 1) := by decide +kernel
theorem dX5_sumOf_62 : decode cX5_sumOf 62 = .ok (.bipush 28, 2) := by decide +kernel
theorem dX5_sumOf_64 : decode cX5_sumOf 64 = .ok (.iushr, 1) := by decide +kernel
theorem dX5_sumOf_65 : decode cX5_sumOf 65 = .ok (.iload 6, 2) := by decide +kernel
theorem dX5_sumOf_67 : decode cX5_sumOf 67 = .ok (.iconst 4, 1) := by decide +kernel
theorem dX5_sumOf_68 : decode cX5_sumOf 68 = .ok (.ishr, 1) := by decide +kernel
theorem dX5_sumOf_69 : decode cX5_sumOf 69 = .ok (.ixor, 1) := by decide +kernel
theorem dX5_sumOf_70 : decode cX5_sumOf 70 = .ok (.bipush 15, 2) := by decide +kernel
theorem dX5_sumOf_72 : decode cX5_sumOf 72 = .ok (.iand, 1) := by decide +kernel
theorem dX5_sumOf_73 : decode cX5_sumOf 73 = .ok (.iaload, 1) := by decide +kernel
theorem dX5_sumOf_74 : decode cX5_sumOf 74 = .ok (.ixor, 1) := by decide +kernel
theorem dX5_sumOf_75 : decode cX5_sumOf 75 = .ok (.istore_n 3, 1) := by decide +kernel
theorem dX5_sumOf_76 : decode cX5_sumOf 76 = .ok (.iload_n 3, 1) := by decide +kernel
theorem dX5_sumOf_77 : decode cX5_sumOf 77 = .ok (.iconst 4, 1) := by decide +kernel
theorem dX5_sumOf_78 : decode cX5_sumOf 78 = .ok (.ishl, 1) := by decide +kernel
theorem dX5_sumOf_79 : decode cX5_sumOf 79 = .ok (.getstatic 22, 3) := by decide +kernel
theorem dX5_sumOf_82 : decode cX5_sumOf 82 = .ok (.iload_n 3, 1) := by decide +kernel
theorem dX5_sumOf_83 : decode cX5_sumOf 83 = .ok (.bipush 28, 2) := by decide +kernel
theorem dX5_sumOf_85 : decode cX5_sumOf 85 = .ok (.iushr, 1) := by decide +kernel
theorem dX5_sumOf_86 : decode cX5_sumOf 86 = .ok (.iload 6, 2) := by decide +kernel
theorem dX5_sumOf_88 : decode cX5_sumOf 88 = .ok (.ixor, 1) := by decide +kernel
theorem dX5_sumOf_89 : decode cX5_sumOf 89 = .ok (.bipush 15, 2) := by decide +kernel
theorem dX5_sumOf_91 : decode cX5_sumOf 91 = .ok (.iand, 1) := by decide +kernel
theorem dX5_sumOf_92 : decode cX5_sumOf 92 = .ok (.iaload, 1) := by decide +kernel
theorem dX5_sumOf_93 : decode cX5_sumOf 93 = .ok (.ixor, 1) := by decide +kernel
theorem dX5_sumOf_94 : decode cX5_sumOf 94 = .ok (.istore_n 3, 1) := by decide +kernel
theorem dX5_sumOf_95 : decode cX5_sumOf 95 = .ok (.iinc 4 1, 3) := by decide +kernel
theorem dX5_sumOf_98 : decode cX5_sumOf 98 = .ok (.goto (-93), 3) := by decide +kernel
theorem dX5_sumOf_101 : decode cX5_sumOf 101 = .ok (.iload_n 3, 1) := by decide +kernel
theorem dX5_sumOf_102 : decode cX5_sumOf 102 = .ok (.ireturn, 1) := by decide +kernel
set_option maxRecDepth 20000 in
theorem ggX5_makeSumRight_X5_sumOf : GoodIn wsX5_makeSumRight wsX5_sumOf := goodIn_r _ [4, 5, 6, 7, 8, 9, 10, 11, 12, 17, 18, 19, 20] (by decide +kernel) (by decide +kernel)
set_option maxRecDepth 20000 in
theorem gX5_makeSumRight_X5_sumOf : GoodIn wsX5_makeSumRight (va_wsS RX5 26 yX5_sumOf wsX5_sumOf) := goodIn_app (goodIn_of _ (by decide +kernel)) ggX5_makeSumRight_X5_sumOf
set_option maxRecDepth 20000 in
theorem ggX5_makeSumRight_X8_change : GoodIn wsX5_makeSumRight wsX8_change := goodIn_r _ [16, 11, 12, 17, 18, 19, 20] (by decide +kernel) (by decide +kernel)
set_option maxRecDepth 20000 in
theorem gX5_makeSumRight_X8_change : GoodIn wsX5_makeSumRight (wsV RX5 30 RX8 yX8_change wsX8_change) := goodIn_app (goodIn_of _ (by decide +kernel)) ggX5_makeSumRight_X8_change
theorem dX5_makeSumRight_0 : decode cX5_makeSumRight 0 = .ok (.aload_n 0, 1) := by decide +kernel
theorem dX5_makeSumRight_1 : decode cX5_makeSumRight 1 = .ok (.iload_n 1, 1) := by decide +kernel
theorem dX5_makeSumRight_2 : decode cX5_makeSumRight 2 = .ok (.iload_n 2, 1) := by decide +kernel
theorem dX5_makeSumRight_3 : decode cX5_makeSumRight 3 = .ok (.invokestatic 26, 3) := by decide +kernel
theorem dX5_makeSumRight_6 : decode cX5_makeSumRight 6 = .ok (.istore_n 3, 1) := by decide +kernel
theorem dX5_makeSumRight_7 : decode cX5_makeSumRight 7 = .ok (.iconst 0, 1) := by decide +kernel
theorem dX5_makeSumRight_8 : decode cX5_makeSumRight 8 = .ok (.istore 4, 2) := by decide +kernel
theorem dX5_makeSumRight_10 : decode cX5_makeSumRight 10 = .ok (.iload 4, 2) := by decide +kernel
theorem dX5_makeSumRight_12 : decode cX5_makeSumRight 12 = .ok (.iconst 4, 1) := by decide +kernel
theorem dX5_makeSumRight_13 : decode cX5_makeSumRight 13 = .ok (.if_icmp .ge 28, 3) := by decide +kernel
theorem dX5_makeSumRight_16 : decode cX5_makeSumRight 16 = .ok (.aload_n 0, 1) := by decide +kernel
theorem dX5_makeSumRight_17 : decode cX5_makeSumRight 17 = .ok (.iload_n 1, 1) := by decide +kernel
theorem dX5_makeSumRight_18 : decode cX5_makeSumRight 18 = .ok (.bipush 22, 2) := by decide +kernel
theorem dX5_makeSumRight_20 : decode cX5_makeSumRight 20 = .ok (.iadd, 1) := by decide +kernel
theorem dX5_makeSumRight_21 : decode cX5_makeSumRight 21 = .ok (.iload 4, 2) := by decide +kernel
theorem dX5_makeSumRight_23 : decode cX5_makeSumRight 23 = .ok (.iadd, 1) := by decide +kernel
theorem dX5_makeSumRight_24 : decode cX5_makeSumRight 24 = .ok (.iload_n 3, 1) := by decide +kernel
theorem dX5_makeSumRight_25 : decode cX5_makeSumRight 25 = .ok (.bipush 8, 2) := by decide +kernel
theorem dX5_makeSumRight_27 : decode cX5_makeSumRight 27 = .ok (.iload 4, 2) := by decide +kernel
theorem dX5_makeSumRight_29 : decode cX5_makeSumRight 29 = .ok (.imul, 1) := by decide +kernel
theorem dX5_makeSumRight_30 : decode cX5_makeSumRight 30 = .ok (.iushr, 1) := by decide +kernel
theorem dX5_makeSumRight_31 : decode cX5_makeSumRight 31 = .ok (.invokevirtual 30, 3) := by decide +kernel
theorem dX5_makeSumRight_34 : decode cX5_makeSumRight 34 = .ok (.pop, 1) := by decide +kernel
theorem dX5_makeSumRight_35 : decode cX5_makeSumRight 35 = .ok (.iinc 4 1, 3) := by decide +kernel
theorem dX5_makeSumRight_38 : decode cX5_makeSumRight 38 = .ok (.goto (-28), 3) := by decide +kernel
theorem dX5_makeSumRight_41 : decode cX5_makeSumRight 41 = .ok (.return_, 1) := by decide +kernel
theorem dX6_init_0 : decode cX6_init 0 = .ok (.aload_n 0, 1) := by decide +kernel
theorem dX6_init_1 : decode cX6_init 1 = .ok (.invokespecial 3, 3) := by decide +kernel
theorem dX6_init_4 : decode cX6_init 4 = .ok (.return_, 1) := by decide +kernel
set_option maxRecDepth 20000 in
theorem ggX6_read_X6_faultOf : GoodIn wsX6_read wsX6_faultOf := goodIn_r _ [14, 2, 1, 5, 3, 15, 16, 17, 18, 19, 20, 21, 22, 23, 24, 25, 26, 27, 28, 29, 30, 31, 32, 33, 34, 35, 36, 37, 38, 39, 40, 41, 42, 13, 43, 44, 45, 46, 47, 48, 49, 50, 51, 6, 4, 52, 53, 54, 55, 56, 57, 58, 59, 60, 61, 7, 62, 63, 64, 65, 66, 67, 68, 69, 70, 100, 101, 102, 103, 104, 105, 106, 107, 108, 109, 110, 111, 112, 113, 114, 115, 116, 117] (by decide +kernel) (by decide +kernel)
set_option maxRecDepth 20000 in
theorem gX6_read_X6_faultOf : GoodIn wsX6_read (wsV RX6 43 RX6 yX6_faultOf wsX6_faultOf) := goodIn_app (goodIn_of _ (by decide +kernel)) ggX6_read_X6_faultOf
set_option maxRecDepth 20000 in
theorem ggX6_read_X6_takePage : GoodIn wsX6_read wsX6_takePage := goodIn_r _ [74, 1, 7, 3, 75, 5, 61, 6, 52, 4, 31, 26, 27, 23, 28, 29, 30, 53, 54, 55, 13, 56, 44, 45, 46, 47, 25, 76, 77, 78, 79, 80, 81, 82, 83, 84, 85, 86, 87, 88, 89, 90, 91, 92, 66, 93, 68, 94, 69, 70, 95, 40, 41, 42, 43, 100, 101, 102, 103, 104, 105, 106, 107, 108, 109, 114, 115, 116, 117, 110, 111, 112, 113] (by decide +kernel) (by decide +kernel)
set_option maxRecDepth 20000 in
theorem gX6_read_X6_takePage : GoodIn wsX6_read (wsV RX6 47 RX6 yX6_takePage wsX6_takePage) := goodIn_app (goodIn_of _ (by decide +kernel)) ggX6_read_X6_takePage
set_option maxRecDepth 20000 in
theorem ggX6_read_X6_faultAtEnd : GoodIn wsX6_read wsX6_faultAtEnd := goodIn_r _ [99, 4, 6, 5, 100, 101, 102, 103, 104, 105, 106, 107, 108, 109] (by decide +kernel) (by decide +kernel)
set_option maxRecDepth 20000 in
theorem gX6_read_X6_faultAtEnd : GoodIn wsX6_read (wsV RX6 50 RX6 yX6_faultAtEnd wsX6_faultAtEnd) := goodIn_app (goodIn_of _ (by decide +kernel)) ggX6_read_X6_faultAtEnd
theorem dX6_read_0 : decode cX6_read 0 = .ok (.aload_n 0, 1) := by decide +kernel
theorem dX6_read_1 : decode cX6_read 1 = .ok (.aload_n 1, 1) := by decide +kernel
theorem dX6_read_2 : decode cX6_read 2 = .ok (.putfield 9, 3) := by decide +kernel
theorem dX6_read_5 : decode cX6_read 5 = .ok (.aload_n 0, 1) := by decide +kernel
theorem dX6_read_6 : decode cX6_read 6 = .ok (.iload_n 2, 1) := by decide +kernel
theorem dX6_read_7 : decode cX6_read 7 = .ok (.putfield 15, 3) := by decide +kernel
theorem dX6_read_10 : decode cX6_read 10 = .ok (.aload_n 0, 1) := by decide +kernel
theorem dX6_read_11 : decode cX6_read 11 = .ok (.aload_n 3, 1) := by decide +kernel
theorem dX6_read_12 : decode cX6_read 12 = .ok (.putfield 19, 3) := by decide +kernel
theorem dX6_read_15 : decode cX6_read 15 = .ok (.aload_n 0, 1) := by decide +kernel
theorem dX6_read_16 : decode cX6_read 16 = .ok (.iconst 0, 1) := by decide +kernel
theorem dX6_read_17 : decode cX6_read 17 = .ok (.putfield 23, 3) := by decide +kernel
theorem dX6_read_20 : decode cX6_read 20 = .ok (.aload_n 0, 1) := by decide +kernel
theorem dX6_read_21 : decode cX6_read 21 = .ok (.iconst 0, 1) := by decide +kernel
theorem dX6_read_22 : decode cX6_read 22 = .ok (.putfield 26, 3) := by decide +kernel
theorem dX6_read_25 : decode cX6_read 25 = .ok (.aload_n 0, 1) := by decide +kernel
theorem dX6_read_26 : decode cX6_read 26 = .ok (.iconst 0, 1) := by decide +kernel
theorem dX6_read_27 : decode cX6_read 27 = .ok (.putfield 30, 3) := by decide +kernel
theorem dX6_read_30 : decode cX6_read 30 = .ok (.aload_n 0, 1) := by decide +kernel
theorem dX6_read_31 : decode cX6_read 31 = .ok (.lconst 0, 1) := by decide +kernel
theorem dX6_read_32 : decode cX6_read 32 = .ok (.putfield 33, 3) := by decide +kernel
theorem dX6_read_35 : decode cX6_read 35 = .ok (.aload_n 0, 1) := by decide +kernel
theorem dX6_read_36 : decode cX6_read 36 = .ok (.iconst 0, 1) := by decide +kernel
theorem dX6_read_37 : decode cX6_read 37 = .ok (.putfield 37, 3) := by decide +kernel
theorem dX6_read_40 : decode cX6_read 40 = .ok (.iconst 0, 1) := by decide +kernel
theorem dX6_read_41 : decode cX6_read 41 = .ok (.istore 4, 2) := by decide +kernel
theorem dX6_read_43 : decode cX6_read 43 = .ok (.iconst 0, 1) := by decide +kernel
theorem dX6_read_44 : decode cX6_read 44 = .ok (.istore 5, 2) := by decide +kernel
theorem dX6_read_46 : decode cX6_read 46 = .ok (.iload 5, 2) := by decide +kernel
theorem dX6_read_48 : decode cX6_read 48 = .ok (.aload_n 0, 1) := by decide +kernel
theorem dX6_read_49 : decode cX6_read 49 = .ok (.getfield 15, 3) := by decide +kernel
theorem dX6_read_52 : decode cX6_read 52 = .ok (.if_icmp .ge 56, 3) := by decide +kernel
theorem dX6_read_55 : decode cX6_read 55 = .ok (.iload 4, 2) := by decide +kernel
theorem dX6_read_57 : decode cX6_read 57 = .ok (.aload_n 0, 1) := by decide +kernel
theorem dX6_read_58 : decode cX6_read 58 = .ok (.getfield 15, 3) := by decide +kernel
theorem dX6_read_61 : decode cX6_read 61 = .ok (.if_icmp .ge 47, 3) := by decide +kernel
theorem dX6_read_64 : decode cX6_read 64 = .ok (.aload_n 0, 1) := by decide +kernel
theorem dX6_read_65 : decode cX6_read 65 = .ok (.getfield 37, 3) := by decide +kernel
theorem dX6_read_68 : decode cX6_read 68 = .ok (.ifCond .ne 40, 3) := by decide +kernel
theorem dX6_read_71 : decode cX6_read 71 = .ok (.aload_n 0, 1) := by decide +kernel
theorem dX6_read_72 : decode cX6_read 72 = .ok (.iload 4, 2) := by decide +kernel
theorem dX6_read_74 : decode cX6_read 74 = .ok (.putfield 40, 3) := by decide +kernel
theorem dX6_read_77 : decode cX6_read 77 = .ok (.aload_n 0, 1) := by decide +kernel
theorem dX6_read_78 : decode cX6_read 78 = .ok (.aload_n 0, 1) := by decide +kernel
theorem dX6_read_79 : decode cX6_read 79 = .ok (.iload 4, 2) := by decide +kernel
theorem dX6_read_81 : decode cX6_read 81 = .ok (.invokevirtual 43, 3) := by decide +kernel
theorem dX6_read_84 : decode cX6_read 84 = .ok (.putfield 37, 3) := by decide +kernel
theorem dX6_read_87 : decode cX6_read 87 = .ok (.aload_n 0, 1) := by decide +kernel
theorem dX6_read_88 : decode cX6_read 88 = .ok (.getfield 37, 3) := by decide +kernel
theorem dX6_read_91 : decode cX6_read 91 = .ok (.ifCond .ne 11, 3) := by decide +kernel
theorem dX6_read_94 : decode cX6_read 94 = .ok (.aload_n 0, 1) := by decide +kernel
theorem dX6_read_95 : decode cX6_read 95 = .ok (.iload 4, 2) := by decide +kernel
theorem dX6_read_97 : decode cX6_read 97 = .ok (.invokevirtual 47, 3) := by decide +kernel
theorem dX6_read_100 : decode cX6_read 100 = .ok (.istore 4, 2) := by decide +kernel
theorem dX6_read_102 : decode cX6_read 102 = .ok (.iinc 5 1, 3) := by decide +kernel
theorem dX6_read_105 : decode cX6_read 105 = .ok (.goto (-59), 3) := by decide +kernel
theorem dX6_read_108 : decode cX6_read 108 = .ok (.aload_n 0, 1) := by decide +kernel
theorem dX6_read_109 : decode cX6_read 109 = .ok (.getfield 37, 3) := by decide +kernel
theorem dX6_read_112 : decode cX6_read 112 = .ok (.ifCond .ne 19, 3) := by decide +kernel
theorem dX6_read_115 : decode cX6_read 115 = .ok (.aload_n 0, 1) := by decide +kernel
theorem dX6_read_116 : decode cX6_read 116 = .ok (.aload_n 0, 1) := by decide +kernel
theorem dX6_read_117 : decode cX6_read 117 = .ok (.getfield 15, 3) := by decide +kernel
theorem dX6_read_120 : decode cX6_read 120 = .ok (.putfield 40, 3) := by decide +kernel
theorem dX6_read_123 : decode cX6_read 123 = .ok (.aload_n 0, 1) := by decide +kernel
theorem dX6_read_124 : decode cX6_read 124 = .ok (.aload_n 0, 1) := by decide +kernel
theorem dX6_read_125 : decode cX6_read 125 = .ok (.invokevirtual 50, 3) := by decide +kernel
theorem dX6_read_128 : decode cX6_read 128 = .ok (.putfield 37, 3) := by decide +kernel
theorem dX6_read_131 : decode cX6_read 131 = .ok (.aload_n 0, 1) := by decide +kernel
theorem dX6_read_132 : decode cX6_read 132 = .ok (.getfield 37, 3) := by decide +kernel
theorem dX6_read_135 : decode cX6_read 135 = .ok (.ifCond .ne 8, 3) := by decide +kernel
theorem dX6_read_138 : decode cX6_read 138 = .ok (.aload_n 0, 1) := by decide +kernel
theorem dX6_read_139 : decode cX6_read 139 = .ok (.iconst (-1), 1) := by decide +kernel
theorem dX6_read_140 : decode cX6_read 140 = .ok (.putfield 40, 3) := by decide +kernel
theorem dX6_read_143 : decode cX6_read 143 = .ok (.return_, 1) := by decide +kernel
theorem dX6_faultAtEnd_0 : decode cX6_faultAtEnd 0 = .ok (.aload_n 0, 1) := by decide +kernel
theorem dX6_faultAtEnd_1 : decode cX6_faultAtEnd 1 = .ok (.getfield 23, 3) := by decide +kernel
theorem dX6_faultAtEnd_4 : decode cX6_faultAtEnd 4 = .ok (.ifCond .ne 5, 3) := by decide +kernel
theorem dX6_faultAtEnd_7 : decode cX6_faultAtEnd 7 = .ok (.iconst 1, 1) := by decide +kernel
theorem dX6_faultAtEnd_8 : decode cX6_faultAtEnd 8 = .ok (.ireturn, 1) := by decide +kernel
theorem dX6_faultAtEnd_9 : decode cX6_faultAtEnd 9 = .ok (.aload_n 0, 1) := by decide +kernel
theorem dX6_faultAtEnd_10 : decode cX6_faultAtEnd 10 = .ok (.getfield 30, 3) := by decide +kernel
theorem dX6_faultAtEnd_13 : decode cX6_faultAtEnd 13 = .ok (.ifCond .ne 5, 3) := by decide +kernel
theorem dX6_faultAtEnd_16 : decode cX6_faultAtEnd 16 = .ok (.iconst 5, 1) := by decide +kernel
theorem dX6_faultAtEnd_17 : decode cX6_faultAtEnd 17 = .ok (.ireturn, 1) := by decide +kernel
theorem dX6_faultAtEnd_18 : decode cX6_faultAtEnd 18 = .ok (.aload_n 0, 1) := by decide +kernel
theorem dX6_faultAtEnd_19 : decode cX6_faultAtEnd 19 = .ok (.getfield 26, 3) := by decide +kernel
theorem dX6_faultAtEnd_22 : decode cX6_faultAtEnd 22 = .ok (.ifCond .eq 8, 3) := by decide +kernel
theorem dX6_faultAtEnd_25 : decode cX6_faultAtEnd 25 = .ok (.bipush 6, 2) := by decide +kernel
theorem dX6_faultAtEnd_27 : decode cX6_faultAtEnd 27 = .ok (.goto 4, 3) := by decide +kernel
theorem dX6_faultAtEnd_30 : decode cX6_faultAtEnd 30 = .ok (.iconst 0, 1) := by decide +kernel
theorem dX6_faultAtEnd_31 : decode cX6_faultAtEnd 31 = .ok (.ireturn, 1) := by decide +kernel
set_option maxRecDepth 20000 in
theorem ggX6_faultOf_X5_isMarked : GoodIn wsX6_faultOf wsX5_isMarked := goodIn_r _ [8, 9, 10, 11, 12, 13, 14, 15, 16, 17, 18, 19, 20, 75, 76, 77, 78] (by decide +kernel) (by decide +kernel)
set_option maxRecDepth 20000 in
theorem gX6_faultOf_X5_isMarked : GoodIn wsX6_faultOf (va_wsS RX6 56 yX5_isMarked wsX5_isMarked) := goodIn_app (goodIn_of _ (by decide +kernel)) ggX6_faultOf_X5_isMarked
set_option maxRecDepth 20000 in
theorem ggX6_faultOf_X8_at : GoodIn wsX6_faultOf wsX8_at := goodIn_r _ [18, 19, 20, 75, 76, 77, 78] (by decide +kernel) (by decide +kernel)
set_option maxRecDepth 20000 in
theorem gX6_faultOf_X8_at : GoodIn wsX6_faultOf (wsV RX6 60 RX8 yX8_at wsX8_at) := goodIn_app (goodIn_of _ (by decide +kernel)) ggX6_faultOf_X8_at
set_option maxRecDepth 20000 in
theorem ggX6_faultOf_X5_endOf : GoodIn wsX6_faultOf wsX5_endOf := goodIn_r _ [24, 25, 16, 17, 13, 18, 19, 20, 75, 76, 77, 78] (by decide +kernel) (by decide +kernel)
set_option maxRecDepth 20000 in
theorem gX6_faultOf_X5_endOf : GoodIn wsX6_faultOf (va_wsS RX6 65 yX5_endOf wsX5_endOf) := goodIn_app (goodIn_of _ (by decide +kernel)) ggX6_faultOf_X5_endOf
set_option maxRecDepth 20000 in
theorem ggX6_faultOf_X5_sumOf : GoodIn wsX6_faultOf wsX5_sumOf := goodIn_r _ [28, 29, 25, 16, 17, 13, 18, 19, 20, 75, 76, 77, 78] (by decide +kernel) (by decide +kernel)
set_option maxRecDepth 20000 in
theorem gX6_faultOf_X5_sumOf : GoodIn wsX6_faultOf (va_wsS RX6 69 yX5_sumOf wsX5_sumOf) := goodIn_app (goodIn_of _ (by decide +kernel)) ggX6_faultOf_X5_sumOf
set_option maxRecDepth 20000 in
theorem ggX6_faultOf_X6_numberAt : GoodIn wsX6_faultOf wsX6_numberAt := goodIn_r _ [34, 2, 35, 36, 37, 13, 38, 15, 16, 17, 18, 19, 20, 65, 66, 67, 68, 69, 70, 71, 72, 73, 74, 75, 76, 77, 78] (by decide +kernel) (by decide +kernel)
set_option maxRecDepth 20000 in
theorem gX6_faultOf_X6_numberAt : GoodIn wsX6_faultOf (wsV RX6 72 RX6 yX6_numberAt wsX6_numberAt) := goodIn_app (goodIn_of _ (by decide +kernel)) ggX6_faultOf_X6_numberAt
set_option maxRecDepth 20000 in
theorem ggX6_faultOf_X6_isOutOfOrder : GoodIn wsX6_faultOf wsX6_isOutOfOrder := goodIn_r _ [42, 43, 44, 45, 30, 31, 32, 33, 34, 2, 35, 36, 37, 13, 38, 15, 16, 17, 18, 19, 20, 65, 66, 67, 68, 69, 70, 71, 72, 73, 74, 75, 76, 77, 78] (by decide +kernel) (by decide +kernel)
set_option maxRecDepth 20000 in
theorem gX6_faultOf_X6_isOutOfOrder : GoodIn wsX6_faultOf (wsV RX6 75 RX6 yX6_isOutOfOrder wsX6_isOutOfOrder) := goodIn_app (goodIn_of _ (by decide +kernel)) ggX6_faultOf_X6_isOutOfOrder
set_option maxRecDepth 20000 in
theorem ggX6_faultOf_X6_packetsEnding : GoodIn wsX6_faultOf wsX6_packetsEnding := goodIn_r _ [49, 2, 21, 16, 17, 13, 18, 19, 20, 65, 66, 67, 68, 69, 70, 71, 72, 73, 74, 75, 76, 77, 78] (by decide +kernel) (by decide +kernel)
set_option maxRecDepth 20000 in
theorem gX6_faultOf_X6_packetsEnding : GoodIn wsX6_faultOf (wsV RX6 79 RX6 yX6_packetsEnding wsX6_packetsEnding) := goodIn_app (goodIn_of _ (by decide +kernel)) ggX6_faultOf_X6_packetsEnding
set_option maxRecDepth 20000 in
theorem ggX6_faultOf_X8_lowFirst : GoodIn wsX6_faultOf wsX8_lowFirst := goodIn_r _ [38, 15, 16, 17, 13, 18, 19, 20, 75, 76, 77, 78] (by decide +kernel) (by decide +kernel)
set_option maxRecDepth 20000 in
theorem gX6_faultOf_X8_lowFirst : GoodIn wsX6_faultOf (wsV RX6 82 RX8 yX8_lowFirst wsX8_lowFirst) := goodIn_app (goodIn_of _ (by decide +kernel)) ggX6_faultOf_X8_lowFirst
set_option maxRecDepth 20000 in
theorem ggX6_faultOf_X6_isTimeWrong : GoodIn wsX6_faultOf wsX6_isTimeWrong := goodIn_r _ [53, 54, 55, 56, 65, 66, 67, 68, 69, 70, 71, 72, 73, 74] (by decide +kernel) (by decide +kernel)
set_option maxRecDepth 20000 in
theorem gX6_faultOf_X6_isTimeWrong : GoodIn wsX6_faultOf (wsV RX6 86 RX6 yX6_isTimeWrong wsX6_isTimeWrong) := goodIn_app (goodIn_of _ (by decide +kernel)) ggX6_faultOf_X6_isTimeWrong
set_option maxRecDepth 20000 in
theorem ggX6_faultOf_X4_hasRoom : GoodIn wsX6_faultOf wsX4_hasRoom := goodIn_r _ [61, 62, 63, 64, 79, 80, 81, 82, 75, 76, 77, 78] (by decide +kernel) (by decide +kernel)
set_option maxRecDepth 20000 in
theorem gX6_faultOf_X4_hasRoom : GoodIn wsX6_faultOf (wsV RX6 90 RX4 yX4_hasRoom wsX4_hasRoom) := goodIn_app (goodIn_of _ (by decide +kernel)) ggX6_faultOf_X4_hasRoom
theorem dX6_faultOf_0 : decode cX6_faultOf 0 = .ok (.aload_n 0, 1) := by decide +kernel
theorem dX6_faultOf_1 : decode cX6_faultOf 1 = .ok (.getfield 15, 3) := by decide +kernel
theorem dX6_faultOf_4 : decode cX6_faultOf 4 = .ok (.iload_n 1, 1) := by decide +kernel
theorem dX6_faultOf_5 : decode cX6_faultOf 5 = .ok (.isub, 1) := by decide +kernel
theorem dX6_faultOf_6 : decode cX6_faultOf 6 = .ok (.bipush 27, 2) := by decide +kernel
theorem dX6_faultOf_8 : decode cX6_faultOf 8 = .ok (.if_icmp .ge 5, 3) := by decide +kernel
theorem dX6_faultOf_11 : decode cX6_faultOf 11 = .ok (.iconst 1, 1) := by decide +kernel
theorem dX6_faultOf_12 : decode cX6_faultOf 12 = .ok (.ireturn, 1) := by decide +kernel
theorem dX6_faultOf_13 : decode cX6_faultOf 13 = .ok (.aload_n 0, 1) := by decide +kernel
theorem dX6_faultOf_14 : decode cX6_faultOf 14 = .ok (.getfield 9, 3) := by decide +kernel
theorem dX6_faultOf_17 : decode cX6_faultOf 17 = .ok (.iload_n 1, 1) := by decide +kernel
theorem dX6_faultOf_18 : decode cX6_faultOf 18 = .ok (.invokestatic 56, 3) := by decide +kernel
theorem dX6_faultOf_21 : decode cX6_faultOf 21 = .ok (.ifCond .ne 5, 3) := by decide +kernel
theorem dX6_faultOf_24 : decode cX6_faultOf 24 = .ok (.iconst 2, 1) := by decide +kernel
theorem dX6_faultOf_25 : decode cX6_faultOf 25 = .ok (.ireturn, 1) := by decide +kernel
theorem dX6_faultOf_26 : decode cX6_faultOf 26 = .ok (.aload_n 0, 1) := by decide +kernel
theorem dX6_faultOf_27 : decode cX6_faultOf 27 = .ok (.getfield 9, 3) := by decide +kernel
theorem dX6_faultOf_30 : decode cX6_faultOf 30 = .ok (.iload_n 1, 1) := by decide +kernel
theorem dX6_faultOf_31 : decode cX6_faultOf 31 = .ok (.iconst 5, 1) := by decide +kernel
theorem dX6_faultOf_32 : decode cX6_faultOf 32 = .ok (.iadd, 1) := by decide +kernel
theorem dX6_faultOf_33 : decode cX6_faultOf 33 = .ok (.invokevirtual 60, 3) := by decide +kernel
theorem dX6_faultOf_36 : decode cX6_faultOf 36 = .ok (.istore_n 2, 1) := by decide +kernel
theorem dX6_faultOf_37 : decode cX6_faultOf 37 = .ok (.aload_n 0, 1) := by decide +kernel
theorem dX6_faultOf_38 : decode cX6_faultOf 38 = .ok (.getfield 9, 3) := by decide +kernel
theorem dX6_faultOf_41 : decode cX6_faultOf 41 = .ok (.iload_n 1, 1) := by decide +kernel
theorem dX6_faultOf_42 : decode cX6_faultOf 42 = .ok (.iconst 4, 1) := by decide +kernel
theorem dX6_faultOf_43 : decode cX6_faultOf 43 = .ok (.iadd, 1) := by decide +kernel
theorem dX6_faultOf_44 : decode cX6_faultOf 44 = .ok (.invokevirtual 60, 3) := by decide +kernel
theorem dX6_faultOf_47 : decode cX6_faultOf 47 = .ok (.ifCond .ne 9, 3) := by decide +kernel
theorem dX6_faultOf_50 : decode cX6_faultOf 50 = .ok (.iload_n 2, 1) := by decide +kernel
theorem dX6_faultOf_51 : decode cX6_faultOf 51 = .ok (.bipush 7, 2) := by decide +kernel
theorem dX6_faultOf_53 : decode cX6_faultOf 53 = .ok (.if_icmp .le 5, 3) := by decide +kernel
theorem dX6_faultOf_56 : decode cX6_faultOf 56 = .ok (.iconst 3, 1) := by decide +kernel
theorem dX6_faultOf_57 : decode cX6_faultOf 57 = .ok (.ireturn, 1) := by decide +kernel
theorem dX6_faultOf_58 : decode cX6_faultOf 58 = .ok (.aload_n 0, 1) := by decide +kernel
theorem dX6_faultOf_59 : decode cX6_faultOf 59 = .ok (.getfield 9, 3) := by decide +kernel
theorem dX6_faultOf_62 : decode cX6_faultOf 62 = .ok (.iload_n 1, 1) := by decide +kernel
theorem dX6_faultOf_63 : decode cX6_faultOf 63 = .ok (.aload_n 0, 1) := by decide +kernel
theorem dX6_faultOf_64 : decode cX6_faultOf 64 = .ok (.getfield 15, 3) := by decide +kernel
theorem dX6_faultOf_67 : decode cX6_faultOf 67 = .ok (.invokestatic 65, 3) := by decide +kernel
theorem dX6_faultOf_70 : decode cX6_faultOf 70 = .ok (.istore_n 3, 1) := by decide +kernel
theorem dX6_faultOf_71 : decode cX6_faultOf 71 = .ok (.iload_n 3, 1) := by decide +kernel
theorem dX6_faultOf_72 : decode cX6_faultOf 72 = .ok (.iconst (-1), 1) := by decide +kernel
theorem dX6_faultOf_73 : decode cX6_faultOf 73 = .ok (.if_icmp .ne 5, 3) := by decide +kernel
theorem dX6_faultOf_76 : decode cX6_faultOf 76 = .ok (.iconst 1, 1) := by decide +kernel
theorem dX6_faultOf_77 : decode cX6_faultOf 77 = .ok (.ireturn, 1) := by decide +kernel
theorem dX6_faultOf_78 : decode cX6_faultOf 78 = .ok (.aload_n 0, 1) := by decide +kernel
theorem dX6_faultOf_79 : decode cX6_faultOf 79 = .ok (.getfield 9, 3) := by decide +kernel
theorem dX6_faultOf_82 : decode cX6_faultOf 82 = .ok (.iload_n 1, 1) := by decide +kernel
theorem dX6_faultOf_83 : decode cX6_faultOf 83 = .ok (.iload_n 3, 1) := by decide +kernel
theorem dX6_faultOf_84 : decode cX6_faultOf 84 = .ok (.invokestatic 69, 3) := by decide +kernel
theorem dX6_faultOf_87 : decode cX6_faultOf 87 = .ok (.aload_n 0, 1) := by decide +kernel
theorem dX6_faultOf_88 : decode cX6_faultOf 88 = .ok (.iload_n 1, 1) := by decide +kernel
theorem dX6_faultOf_89 : decode cX6_faultOf 89 = .ok (.bipush 22, 2) := by decide +kernel
theorem dX6_faultOf_91 : decode cX6_faultOf 91 = .ok (.iadd, 1) := by decide +kernel
theorem dX6_faultOf_92 : decode cX6_faultOf 92 = .ok (.invokevirtual 72, 3) := by decide +kernel
theorem dX6_faultOf_95 : decode cX6_faultOf 95 = .ok (.if_icmp .eq 5, 3) := by decide +kernel
theorem dX6_faultOf_98 : decode cX6_faultOf 98 = .ok (.iconst 4, 1) := by decide +kernel
theorem dX6_faultOf_99 : decode cX6_faultOf 99 = .ok (.ireturn, 1) := by decide +kernel
theorem dX6_faultOf_100 : decode cX6_faultOf 100 = .ok (.aload_n 0, 1) := by decide +kernel
theorem dX6_faultOf_101 : decode cX6_faultOf 101 = .ok (.iload_n 1, 1) := by decide +kernel
theorem dX6_faultOf_102 : decode cX6_faultOf 102 = .ok (.iload_n 2, 1) := by decide +kernel
theorem dX6_faultOf_103 : decode cX6_faultOf 103 = .ok (.invokevirtual 75, 3) := by decide +kernel
theorem dX6_faultOf_106 : decode cX6_faultOf 106 = .ok (.ifCond .eq 5, 3) := by decide +kernel
theorem dX6_faultOf_109 : decode cX6_faultOf 109 = .ok (.iconst 5, 1) := by decide +kernel
theorem dX6_faultOf_110 : decode cX6_faultOf 110 = .ok (.ireturn, 1) := by decide +kernel
theorem dX6_faultOf_111 : decode cX6_faultOf 111 = .ok (.iload_n 2, 1) := by decide +kernel
theorem dX6_faultOf_112 : decode cX6_faultOf 112 = .ok (.iconst 1, 1) := by decide +kernel
theorem dX6_faultOf_113 : decode cX6_faultOf 113 = .ok (.iand, 1) := by decide +kernel
theorem dX6_faultOf_114 : decode cX6_faultOf 114 = .ok (.ifCond .eq 7, 3) := by decide +kernel
theorem dX6_faultOf_117 : decode cX6_faultOf 117 = .ok (.iconst 1, 1) := by decide +kernel
theorem dX6_faultOf_118 : decode cX6_faultOf 118 = .ok (.goto 4, 3) := by decide +kernel
theorem dX6_faultOf_121 : decode cX6_faultOf 121 = .ok (.iconst 0, 1) := by decide +kernel
theorem dX6_faultOf_122 : decode cX6_faultOf 122 = .ok (.aload_n 0, 1) := by decide +kernel
theorem dX6_faultOf_123 : decode cX6_faultOf 123 = .ok (.getfield 26, 3) := by decide +kernel
theorem dX6_faultOf_126 : decode cX6_faultOf 126 = .ok (.if_icmp .eq 6, 3) := by decide +kernel
theorem dX6_faultOf_129 : decode cX6_faultOf 129 = .ok (.bipush 6, 2) := by decide +kernel
theorem dX6_faultOf_131 : decode cX6_faultOf 131 = .ok (.ireturn, 1) := by decide +kernel
theorem dX6_faultOf_132 : decode cX6_faultOf 132 = .ok (.aload_n 0, 1) := by decide +kernel
theorem dX6_faultOf_133 : decode cX6_faultOf 133 = .ok (.iload_n 1, 1) := by decide +kernel
theorem dX6_faultOf_134 : decode cX6_faultOf 134 = .ok (.invokevirtual 79, 3) := by decide +kernel
theorem dX6_faultOf_137 : decode cX6_faultOf 137 = .ok (.istore 4, 2) := by decide +kernel
theorem dX6_faultOf_139 : decode cX6_faultOf 139 = .ok (.aload_n 0, 1) := by decide +kernel
theorem dX6_faultOf_140 : decode cX6_faultOf 140 = .ok (.aload_n 0, 1) := by decide +kernel
theorem dX6_faultOf_141 : decode cX6_faultOf 141 = .ok (.getfield 9, 3) := by decide +kernel
theorem dX6_faultOf_144 : decode cX6_faultOf 144 = .ok (.iload_n 1, 1) := by decide +kernel
theorem dX6_faultOf_145 : decode cX6_faultOf 145 = .ok (.bipush 6, 2) := by decide +kernel
theorem dX6_faultOf_147 : decode cX6_faultOf 147 = .ok (.iadd, 1) := by decide +kernel
theorem dX6_faultOf_148 : decode cX6_faultOf 148 = .ok (.bipush 8, 2) := by decide +kernel
theorem dX6_faultOf_150 : decode cX6_faultOf 150 = .ok (.invokevirtual 82, 3) := by decide +kernel
theorem dX6_faultOf_153 : decode cX6_faultOf 153 = .ok (.iload 4, 2) := by decide +kernel
theorem dX6_faultOf_155 : decode cX6_faultOf 155 = .ok (.invokevirtual 86, 3) := by decide +kernel
theorem dX6_faultOf_158 : decode cX6_faultOf 158 = .ok (.ifCond .eq 6, 3) := by decide +kernel
theorem dX6_faultOf_161 : decode cX6_faultOf 161 = .ok (.bipush 7, 2) := by decide +kernel
theorem dX6_faultOf_163 : decode cX6_faultOf 163 = .ok (.ireturn, 1) := by decide +kernel
theorem dX6_faultOf_164 : decode cX6_faultOf 164 = .ok (.iload_n 1, 1) := by decide +kernel
theorem dX6_faultOf_165 : decode cX6_faultOf 165 = .ok (.bipush 27, 2) := by decide +kernel
theorem dX6_faultOf_167 : decode cX6_faultOf 167 = .ok (.iadd, 1) := by decide +kernel
theorem dX6_faultOf_168 : decode cX6_faultOf 168 = .ok (.aload_n 0, 1) := by decide +kernel
theorem dX6_faultOf_169 : decode cX6_faultOf 169 = .ok (.getfield 9, 3) := by decide +kernel
theorem dX6_faultOf_172 : decode cX6_faultOf 172 = .ok (.iload_n 1, 1) := by decide +kernel
theorem dX6_faultOf_173 : decode cX6_faultOf 173 = .ok (.bipush 26, 2) := by decide +kernel
theorem dX6_faultOf_175 : decode cX6_faultOf 175 = .ok (.iadd, 1) := by decide +kernel
theorem dX6_faultOf_176 : decode cX6_faultOf 176 = .ok (.invokevirtual 60, 3) := by decide +kernel
theorem dX6_faultOf_179 : decode cX6_faultOf 179 = .ok (.iadd, 1) := by decide +kernel
theorem dX6_faultOf_180 : decode cX6_faultOf 180 = .ok (.istore 5, 2) := by decide +kernel
theorem dX6_faultOf_182 : decode cX6_faultOf 182 = .ok (.aload_n 0, 1) := by decide +kernel
theorem dX6_faultOf_183 : decode cX6_faultOf 183 = .ok (.getfield 19, 3) := by decide +kernel
theorem dX6_faultOf_186 : decode cX6_faultOf 186 = .ok (.iload 4, 2) := by decide +kernel
theorem dX6_faultOf_188 : decode cX6_faultOf 188 = .ok (.iload_n 3, 1) := by decide +kernel
theorem dX6_faultOf_189 : decode cX6_faultOf 189 = .ok (.iload 5, 2) := by decide +kernel
theorem dX6_faultOf_191 : decode cX6_faultOf 191 = .ok (.isub, 1) := by decide +kernel
theorem dX6_faultOf_192 : decode cX6_faultOf 192 = .ok (.invokevirtual 90, 3) := by decide +kernel
theorem dX6_faultOf_195 : decode cX6_faultOf 195 = .ok (.ifCond .eq 7, 3) := by decide +kernel
theorem dX6_faultOf_198 : decode cX6_faultOf 198 = .ok (.iconst 0, 1) := by decide +kernel
theorem dX6_faultOf_199 : decode cX6_faultOf 199 = .ok (.goto 5, 3) := by decide +kernel
theorem dX6_faultOf_202 : decode cX6_faultOf 202 = .ok (.bipush 8, 2) := by decide +kernel
theorem dX6_faultOf_204 : decode cX6_faultOf 204 = .ok (.ireturn, 1) := by decide +kernel
set_option maxRecDepth 20000 in
theorem ggX6_numberAt_X8_lowFirst : GoodIn wsX6_numberAt wsX8_lowFirst := goodIn_r _ [6, 7, 8, 9, 5, 10, 11, 12, 23, 24, 25, 26] (by decide +kernel) (by decide +kernel)
set_option maxRecDepth 20000 in
theorem gX6_numberAt_X8_lowFirst : GoodIn wsX6_numberAt (wsV RX6 82 RX8 yX8_lowFirst wsX8_lowFirst) := goodIn_app (goodIn_of _ (by decide +kernel)) ggX6_numberAt_X8_lowFirst
theorem dX6_numberAt_0 : decode cX6_numberAt 0 = .ok (.aload_n 0, 1) := by decide +kernel
theorem dX6_numberAt_1 : decode cX6_numberAt 1 = .ok (.getfield 9, 3) := by decide +kernel
theorem dX6_numberAt_4 : decode cX6_numberAt 4 = .ok (.iload_n 1, 1) := by decide +kernel
theorem dX6_numberAt_5 : decode cX6_numberAt 5 = .ok (.iconst 4, 1) := by decide +kernel
theorem dX6_numberAt_6 : decode cX6_numberAt 6 = .ok (.invokevirtual 82, 3) := by decide +kernel
theorem dX6_numberAt_9 : decode cX6_numberAt 9 = .ok (.l2i, 1) := by decide +kernel
theorem dX6_numberAt_10 : decode cX6_numberAt 10 = .ok (.ireturn, 1) := by decide +kernel
set_option maxRecDepth 20000 in
theorem ggX6_isOutOfOrder_X6_numberAt : GoodIn wsX6_isOutOfOrder wsX6_numberAt := goodIn_r _ [8, 9, 10, 11, 12, 13, 14, 15, 16, 17, 18, 19, 20, 21, 22, 23, 24, 25, 26, 27, 28, 29, 30, 31, 32, 33, 34] (by decide +kernel) (by decide +kernel)
set_option maxRecDepth 20000 in
theorem gX6_isOutOfOrder_X6_numberAt : GoodIn wsX6_isOutOfOrder (wsV RX6 72 RX6 yX6_numberAt wsX6_numberAt) := goodIn_app (goodIn_of _ (by decide +kernel)) ggX6_isOutOfOrder_X6_numberAt
theorem dX6_isOutOfOrder_0 : decode cX6_isOutOfOrder 0 = .ok (.iload_n 2, 1) := by decide +kernel
theorem dX6_isOutOfOrder_1 : decode cX6_isOutOfOrder 1 = .ok (.iconst 2, 1) := by decide +kernel
theorem dX6_isOutOfOrder_2 : decode cX6_isOutOfOrder 2 = .ok (.iand, 1) := by decide +kernel
theorem dX6_isOutOfOrder_3 : decode cX6_isOutOfOrder 3 = .ok (.ifCond .eq 7, 3) := by decide +kernel
theorem dX6_isOutOfOrder_6 : decode cX6_isOutOfOrder 6 = .ok (.iconst 1, 1) := by decide +kernel
theorem dX6_isOutOfOrder_7 : decode cX6_isOutOfOrder 7 = .ok (.goto 4, 3) := by decide +kernel
theorem dX6_isOutOfOrder_10 : decode cX6_isOutOfOrder 10 = .ok (.iconst 0, 1) := by decide +kernel
theorem dX6_isOutOfOrder_11 : decode cX6_isOutOfOrder 11 = .ok (.istore_n 3, 1) := by decide +kernel
theorem dX6_isOutOfOrder_12 : decode cX6_isOutOfOrder 12 = .ok (.aload_n 0, 1) := by decide +kernel
theorem dX6_isOutOfOrder_13 : decode cX6_isOutOfOrder 13 = .ok (.getfield 30, 3) := by decide +kernel
theorem dX6_isOutOfOrder_16 : decode cX6_isOutOfOrder 16 = .ok (.ifCond .ne 19, 3) := by decide +kernel
theorem dX6_isOutOfOrder_19 : decode cX6_isOutOfOrder 19 = .ok (.iload_n 3, 1) := by decide +kernel
theorem dX6_isOutOfOrder_20 : decode cX6_isOutOfOrder 20 = .ok (.aload_n 0, 1) := by decide +kernel
theorem dX6_isOutOfOrder_21 : decode cX6_isOutOfOrder 21 = .ok (.getfield 23, 3) := by decide +kernel
theorem dX6_isOutOfOrder_24 : decode cX6_isOutOfOrder 24 = .ok (.ifCond .ne 7, 3) := by decide +kernel
theorem dX6_isOutOfOrder_27 : decode cX6_isOutOfOrder 27 = .ok (.iconst 1, 1) := by decide +kernel
theorem dX6_isOutOfOrder_28 : decode cX6_isOutOfOrder 28 = .ok (.goto 4, 3) := by decide +kernel
theorem dX6_isOutOfOrder_31 : decode cX6_isOutOfOrder 31 = .ok (.iconst 0, 1) := by decide +kernel
theorem dX6_isOutOfOrder_32 : decode cX6_isOutOfOrder 32 = .ok (.if_icmp .eq 5, 3) := by decide +kernel
theorem dX6_isOutOfOrder_35 : decode cX6_isOutOfOrder 35 = .ok (.iconst 1, 1) := by decide +kernel
theorem dX6_isOutOfOrder_36 : decode cX6_isOutOfOrder 36 = .ok (.ireturn, 1) := by decide +kernel
theorem dX6_isOutOfOrder_37 : decode cX6_isOutOfOrder 37 = .ok (.aload_n 0, 1) := by decide +kernel
theorem dX6_isOutOfOrder_38 : decode cX6_isOutOfOrder 38 = .ok (.iload_n 1, 1) := by decide +kernel
theorem dX6_isOutOfOrder_39 : decode cX6_isOutOfOrder 39 = .ok (.bipush 18, 2) := by decide +kernel
theorem dX6_isOutOfOrder_41 : decode cX6_isOutOfOrder 41 = .ok (.iadd, 1) := by decide +kernel
theorem dX6_isOutOfOrder_42 : decode cX6_isOutOfOrder 42 = .ok (.invokevirtual 72, 3) := by decide +kernel
theorem dX6_isOutOfOrder_45 : decode cX6_isOutOfOrder 45 = .ok (.aload_n 0, 1) := by decide +kernel
theorem dX6_isOutOfOrder_46 : decode cX6_isOutOfOrder 46 = .ok (.getfield 23, 3) := by decide +kernel
theorem dX6_isOutOfOrder_49 : decode cX6_isOutOfOrder 49 = .ok (.if_icmp .eq 5, 3) := by decide +kernel
theorem dX6_isOutOfOrder_52 : decode cX6_isOutOfOrder 52 = .ok (.iconst 1, 1) := by decide +kernel
theorem dX6_isOutOfOrder_53 : decode cX6_isOutOfOrder 53 = .ok (.ireturn, 1) := by decide +kernel
theorem dX6_isOutOfOrder_54 : decode cX6_isOutOfOrder 54 = .ok (.aload_n 0, 1) := by decide +kernel
theorem dX6_isOutOfOrder_55 : decode cX6_isOutOfOrder 55 = .ok (.getfield 23, 3) := by decide +kernel
theorem dX6_isOutOfOrder_58 : decode cX6_isOutOfOrder 58 = .ok (.ifCond .le 22, 3) := by decide +kernel
theorem dX6_isOutOfOrder_61 : decode cX6_isOutOfOrder 61 = .ok (.aload_n 0, 1) := by decide +kernel
theorem dX6_isOutOfOrder_62 : decode cX6_isOutOfOrder 62 = .ok (.iload_n 1, 1) := by decide +kernel
theorem dX6_isOutOfOrder_63 : decode cX6_isOutOfOrder 63 = .ok (.bipush 14, 2) := by decide +kernel
theorem dX6_isOutOfOrder_65 : decode cX6_isOutOfOrder 65 = .ok (.iadd, 1) := by decide +kernel
theorem dX6_isOutOfOrder_66 : decode cX6_isOutOfOrder 66 = .ok (.invokevirtual 72, 3) := by decide +kernel
theorem dX6_isOutOfOrder_69 : decode cX6_isOutOfOrder 69 = .ok (.aload_n 0, 1) := by decide +kernel
theorem dX6_isOutOfOrder_70 : decode cX6_isOutOfOrder 70 = .ok (.getfield 95, 3) := by decide +kernel
theorem dX6_isOutOfOrder_73 : decode cX6_isOutOfOrder 73 = .ok (.if_icmp .eq 7, 3) := by decide +kernel
theorem dX6_isOutOfOrder_76 : decode cX6_isOutOfOrder 76 = .ok (.iconst 1, 1) := by decide +kernel
theorem dX6_isOutOfOrder_77 : decode cX6_isOutOfOrder 77 = .ok (.goto 4, 3) := by decide +kernel
theorem dX6_isOutOfOrder_80 : decode cX6_isOutOfOrder 80 = .ok (.iconst 0, 1) := by decide +kernel
theorem dX6_isOutOfOrder_81 : decode cX6_isOutOfOrder 81 = .ok (.ireturn, 1) := by decide +kernel
set_option maxRecDepth 20000 in
theorem ggX6_packetsEnding_X8_at : GoodIn wsX6_packetsEnding wsX8_at := goodIn_r _ [6, 7, 8, 19, 20, 21, 22] (by decide +kernel) (by decide +kernel)
set_option maxRecDepth 20000 in
theorem gX6_packetsEnding_X8_at : GoodIn wsX6_packetsEnding (wsV RX6 60 RX8 yX8_at wsX8_at) := goodIn_app (goodIn_of _ (by decide +kernel)) ggX6_packetsEnding_X8_at
theorem dX6_packetsEnding_0 : decode cX6_packetsEnding 0 = .ok (.aload_n 0, 1) := by decide +kernel
theorem dX6_packetsEnding_1 : decode cX6_packetsEnding 1 = .ok (.getfield 9, 3) := by decide +kernel
theorem dX6_packetsEnding_4 : decode cX6_packetsEnding 4 = .ok (.iload_n 1, 1) := by decide +kernel
theorem dX6_packetsEnding_5 : decode cX6_packetsEnding 5 = .ok (.bipush 26, 2) := by decide +kernel
theorem dX6_packetsEnding_7 : decode cX6_packetsEnding 7 = .ok (.iadd, 1) := by decide +kernel
theorem dX6_packetsEnding_8 : decode cX6_packetsEnding 8 = .ok (.invokevirtual 60, 3) := by decide +kernel
theorem dX6_packetsEnding_11 : decode cX6_packetsEnding 11 = .ok (.istore_n 2, 1) := by decide +kernel
theorem dX6_packetsEnding_12 : decode cX6_packetsEnding 12 = .ok (.iconst 0, 1) := by decide +kernel
theorem dX6_packetsEnding_13 : decode cX6_packetsEnding 13 = .ok (.istore_n 3, 1) := by decide +kernel
theorem dX6_packetsEnding_14 : decode cX6_packetsEnding 14 = .ok (.iconst 0, 1) := by decide +kernel
theorem dX6_packetsEnding_15 : decode cX6_packetsEnding 15 = .ok (.istore 4, 2) := by decide +kernel
theorem dX6_packetsEnding_17 : decode cX6_packetsEnding 17 = .ok (.iload 4, 2) := by decide +kernel
theorem dX6_packetsEnding_19 : decode cX6_packetsEnding 19 = .ok (.iload_n 2, 1) := by decide +kernel
theorem dX6_packetsEnding_20 : decode cX6_packetsEnding 20 = .ok (.if_icmp .ge 32, 3) := by decide +kernel
theorem dX6_packetsEnding_23 : decode cX6_packetsEnding 23 = .ok (.aload_n 0, 1) := by decide +kernel
theorem dX6_packetsEnding_24 : decode cX6_packetsEnding 24 = .ok (.getfield 9, 3) := by decide +kernel
theorem dX6_packetsEnding_27 : decode cX6_packetsEnding 27 = .ok (.iload_n 1, 1) := by decide +kernel
theorem dX6_packetsEnding_28 : decode cX6_packetsEnding 28 = .ok (.bipush 27, 2) := by decide +kernel
theorem dX6_packetsEnding_30 : decode cX6_packetsEnding 30 = .ok (.iadd, 1) := by decide +kernel
theorem dX6_packetsEnding_31 : decode cX6_packetsEnding 31 = .ok (.iload 4, 2) := by decide +kernel
theorem dX6_packetsEnding_33 : decode cX6_packetsEnding 33 = .ok (.iadd, 1) := by decide +kernel
theorem dX6_packetsEnding_34 : decode cX6_packetsEnding 34 = .ok (.invokevirtual 60, 3) := by decide +kernel
theorem dX6_packetsEnding_37 : decode cX6_packetsEnding 37 = .ok (.sipush 255, 3) := by decide +kernel
theorem dX6_packetsEnding_40 : decode cX6_packetsEnding 40 = .ok (.if_icmp .ge 6, 3) := by decide +kernel
theorem dX6_packetsEnding_43 : decode cX6_packetsEnding 43 = .ok (.iinc 3 1, 3) := by decide +kernel
theorem dX6_packetsEnding_46 : decode cX6_packetsEnding 46 = .ok (.iinc 4 1, 3) := by decide +kernel
theorem dX6_packetsEnding_49 : decode cX6_packetsEnding 49 = .ok (.goto (-32), 3) := by decide +kernel
theorem dX6_packetsEnding_52 : decode cX6_packetsEnding 52 = .ok (.iload_n 3, 1) := by decide +kernel
theorem dX6_packetsEnding_53 : decode cX6_packetsEnding 53 = .ok (.ireturn, 1) := by decide +kernel
theorem dX6_isTimeWrong_0 : decode cX6_isTimeWrong 0 = .ok (.iload_n 3, 1) := by decide +kernel
theorem dX6_isTimeWrong_1 : decode cX6_isTimeWrong 1 = .ok (.ifCond .ne 17, 3) := by decide +kernel
theorem dX6_isTimeWrong_4 : decode cX6_isTimeWrong 4 = .ok (.lload_n 1, 1) := by decide +kernel
theorem dX6_isTimeWrong_5 : decode cX6_isTimeWrong 5 = .ok (.ldc2_w 98, 3) := by decide +kernel
theorem dX6_isTimeWrong_8 : decode cX6_isTimeWrong 8 = .ok (.lcmp, 1) := by decide +kernel
theorem dX6_isTimeWrong_9 : decode cX6_isTimeWrong 9 = .ok (.ifCond .eq 7, 3) := by decide +kernel
theorem dX6_isTimeWrong_12 : decode cX6_isTimeWrong 12 = .ok (.iconst 1, 1) := by decide +kernel
theorem dX6_isTimeWrong_13 : decode cX6_isTimeWrong 13 = .ok (.goto 4, 3) := by decide +kernel
theorem dX6_isTimeWrong_16 : decode cX6_isTimeWrong 16 = .ok (.iconst 0, 1) := by decide +kernel
theorem dX6_isTimeWrong_17 : decode cX6_isTimeWrong 17 = .ok (.ireturn, 1) := by decide +kernel
theorem dX6_isTimeWrong_18 : decode cX6_isTimeWrong 18 = .ok (.lload_n 1, 1) := by decide +kernel
theorem dX6_isTimeWrong_19 : decode cX6_isTimeWrong 19 = .ok (.aload_n 0, 1) := by decide +kernel
theorem dX6_isTimeWrong_20 : decode cX6_isTimeWrong 20 = .ok (.getfield 33, 3) := by decide +kernel
theorem dX6_isTimeWrong_23 : decode cX6_isTimeWrong 23 = .ok (.lcmp, 1) := by decide +kernel
theorem dX6_isTimeWrong_24 : decode cX6_isTimeWrong 24 = .ok (.ifCond .lt 11, 3) := by decide +kernel
theorem dX6_isTimeWrong_27 : decode cX6_isTimeWrong 27 = .ok (.lload_n 1, 1) := by decide +kernel
theorem dX6_isTimeWrong_28 : decode cX6_isTimeWrong 28 = .ok (.ldc2_w 100, 3) := by decide +kernel
theorem dX6_isTimeWrong_31 : decode cX6_isTimeWrong 31 = .ok (.lcmp, 1) := by decide +kernel
theorem dX6_isTimeWrong_32 : decode cX6_isTimeWrong 32 = .ok (.ifCond .le 7, 3) := by decide +kernel
theorem dX6_isTimeWrong_35 : decode cX6_isTimeWrong 35 = .ok (.iconst 1, 1) := by decide +kernel
theorem dX6_isTimeWrong_36 : decode cX6_isTimeWrong 36 = .ok (.goto 4, 3) := by decide +kernel
theorem dX6_isTimeWrong_39 : decode cX6_isTimeWrong 39 = .ok (.iconst 0, 1) := by decide +kernel
theorem dX6_isTimeWrong_40 : decode cX6_isTimeWrong 40 = .ok (.ireturn, 1) := by decide +kernel
set_option maxRecDepth 20000 in
theorem ggX6_takePage_X8_at : GoodIn wsX6_takePage wsX8_at := goodIn_r _ [14, 15, 16, 69, 70, 71, 72] (by decide +kernel) (by decide +kernel)
set_option maxRecDepth 20000 in
theorem gX6_takePage_X8_at : GoodIn wsX6_takePage (wsV RX6 60 RX8 yX8_at wsX8_at) := goodIn_app (goodIn_of _ (by decide +kernel)) ggX6_takePage_X8_at
set_option maxRecDepth 20000 in
theorem ggX6_takePage_X6_packetsEnding : GoodIn wsX6_takePage wsX6_packetsEnding := goodIn_r _ [21, 1, 10, 11, 12, 13, 14, 15, 16, 55, 56, 57, 58, 59, 60, 61, 62, 63, 64, 69, 70, 71, 72] (by decide +kernel) (by decide +kernel)
set_option maxRecDepth 20000 in
theorem gX6_takePage_X6_packetsEnding : GoodIn wsX6_takePage (wsV RX6 79 RX6 yX6_packetsEnding wsX6_packetsEnding) := goodIn_app (goodIn_of _ (by decide +kernel)) ggX6_takePage_X6_packetsEnding
set_option maxRecDepth 20000 in
theorem ggX6_takePage_X8_lowFirst : GoodIn wsX6_takePage wsX8_lowFirst := goodIn_r _ [25, 26, 11, 12, 13, 14, 15, 16, 69, 70, 71, 72] (by decide +kernel) (by decide +kernel)
set_option maxRecDepth 20000 in
theorem gX6_takePage_X8_lowFirst : GoodIn wsX6_takePage (wsV RX6 82 RX8 yX8_lowFirst wsX8_lowFirst) := goodIn_app (goodIn_of _ (by decide +kernel)) ggX6_takePage_X8_lowFirst
set_option maxRecDepth 20000 in
theorem ggX6_takePage_X8_addPart : GoodIn wsX6_takePage wsX8_addPart := goodIn_r _ [30, 26, 11, 12, 13, 14, 15, 16, 31, 32, 33, 34, 35, 36, 37, 38, 39, 40, 69, 70, 71, 72] (by decide +kernel) (by decide +kernel)
set_option maxRecDepth 20000 in
theorem gX6_takePage_X8_addPart : GoodIn wsX6_takePage (wsV RX6 105 RX8 yX8_addPart wsX8_addPart) := goodIn_app (goodIn_of _ (by decide +kernel)) ggX6_takePage_X8_addPart
set_option maxRecDepth 20000 in
theorem ggX6_takePage_X4_endPacket : GoodIn wsX6_takePage wsX4_endPacket := goodIn_r _ [45, 46, 47, 48, 49, 50, 65, 66, 67, 68, 69, 70, 71, 72] (by decide +kernel) (by decide +kernel)
set_option maxRecDepth 20000 in
theorem gX6_takePage_X4_endPacket : GoodIn wsX6_takePage (wsV RX6 109 RX4 yX4_endPacket wsX4_endPacket) := goodIn_app (goodIn_of _ (by decide +kernel)) ggX6_takePage_X4_endPacket
set_option maxRecDepth 20000 in
theorem ggX6_takePage_X6_numberAt : GoodIn wsX6_takePage wsX6_numberAt := goodIn_r _ [54, 1, 22, 23, 24, 13, 25, 26, 11, 12, 14, 15, 16, 55, 56, 57, 58, 59, 60, 61, 62, 63, 64, 69, 70, 71, 72] (by decide +kernel) (by decide +kernel)
set_option maxRecDepth 20000 in
theorem gX6_takePage_X6_numberAt : GoodIn wsX6_takePage (wsV RX6 72 RX6 yX6_numberAt wsX6_numberAt) := goodIn_app (goodIn_of _ (by decide +kernel)) ggX6_takePage_X6_numberAt
theorem dX6_takePage_0 : decode cX6_takePage 0 = .ok (.aload_n 0, 1) := by decide +kernel
theorem dX6_takePage_1 : decode cX6_takePage 1 = .ok (.getfield 9, 3) := by decide +kernel
theorem dX6_takePage_4 : decode cX6_takePage 4 = .ok (.iload_n 1, 1) := by decide +kernel
theorem dX6_takePage_5 : decode cX6_takePage 5 = .ok (.bipush 26, 2) := by decide +kernel
theorem dX6_takePage_7 : decode cX6_takePage 7 = .ok (.iadd, 1) := by decide +kernel
theorem dX6_takePage_8 : decode cX6_takePage 8 = .ok (.invokevirtual 60, 3) := by decide +kernel
theorem dX6_takePage_11 : decode cX6_takePage 11 = .ok (.istore_n 2, 1) := by decide +kernel
theorem dX6_takePage_12 : decode cX6_takePage 12 = .ok (.aload_n 0, 1) := by decide +kernel
theorem dX6_takePage_13 : decode cX6_takePage 13 = .ok (.iload_n 1, 1) := by decide +kernel
theorem dX6_takePage_14 : decode cX6_takePage 14 = .ok (.invokevirtual 79, 3) := by decide +kernel
theorem dX6_takePage_17 : decode cX6_takePage 17 = .ok (.istore_n 3, 1) := by decide +kernel
theorem dX6_takePage_18 : decode cX6_takePage 18 = .ok (.aload_n 0, 1) := by decide +kernel
theorem dX6_takePage_19 : decode cX6_takePage 19 = .ok (.getfield 9, 3) := by decide +kernel
theorem dX6_takePage_22 : decode cX6_takePage 22 = .ok (.iload_n 1, 1) := by decide +kernel
theorem dX6_takePage_23 : decode cX6_takePage 23 = .ok (.bipush 6, 2) := by decide +kernel
theorem dX6_takePage_25 : decode cX6_takePage 25 = .ok (.iadd, 1) := by decide +kernel
theorem dX6_takePage_26 : decode cX6_takePage 26 = .ok (.bipush 8, 2) := by decide +kernel
theorem dX6_takePage_28 : decode cX6_takePage 28 = .ok (.invokevirtual 82, 3) := by decide +kernel
theorem dX6_takePage_31 : decode cX6_takePage 31 = .ok (.lstore 4, 2) := by decide +kernel
theorem dX6_takePage_33 : decode cX6_takePage 33 = .ok (.aload_n 0, 1) := by decide +kernel
theorem dX6_takePage_34 : decode cX6_takePage 34 = .ok (.iload_n 3, 1) := by decide +kernel
theorem dX6_takePage_35 : decode cX6_takePage 35 = .ok (.ifCond .le 8, 3) := by decide +kernel
theorem dX6_takePage_38 : decode cX6_takePage 38 = .ok (.lload 4, 2) := by decide +kernel
theorem dX6_takePage_40 : decode cX6_takePage 40 = .ok (.goto 7, 3) := by decide +kernel
theorem dX6_takePage_43 : decode cX6_takePage 43 = .ok (.aload_n 0, 1) := by decide +kernel
theorem dX6_takePage_44 : decode cX6_takePage 44 = .ok (.getfield 33, 3) := by decide +kernel
theorem dX6_takePage_47 : decode cX6_takePage 47 = .ok (.putfield 33, 3) := by decide +kernel
theorem dX6_takePage_50 : decode cX6_takePage 50 = .ok (.iload_n 1, 1) := by decide +kernel
theorem dX6_takePage_51 : decode cX6_takePage 51 = .ok (.bipush 27, 2) := by decide +kernel
theorem dX6_takePage_53 : decode cX6_takePage 53 = .ok (.iadd, 1) := by decide +kernel
theorem dX6_takePage_54 : decode cX6_takePage 54 = .ok (.iload_n 2, 1) := by decide +kernel
theorem dX6_takePage_55 : decode cX6_takePage 55 = .ok (.iadd, 1) := by decide +kernel
theorem dX6_takePage_56 : decode cX6_takePage 56 = .ok (.istore 6, 2) := by decide +kernel
theorem dX6_takePage_58 : decode cX6_takePage 58 = .ok (.iconst 0, 1) := by decide +kernel
theorem dX6_takePage_59 : decode cX6_takePage 59 = .ok (.istore 7, 2) := by decide +kernel
theorem dX6_takePage_61 : decode cX6_takePage 61 = .ok (.iload 7, 2) := by decide +kernel
theorem dX6_takePage_63 : decode cX6_takePage 63 = .ok (.iload_n 2, 1) := by decide +kernel
theorem dX6_takePage_64 : decode cX6_takePage 64 = .ok (.if_icmp .ge 96, 3) := by decide +kernel
theorem dX6_takePage_67 : decode cX6_takePage 67 = .ok (.aload_n 0, 1) := by decide +kernel
theorem dX6_takePage_68 : decode cX6_takePage 68 = .ok (.getfield 9, 3) := by decide +kernel
theorem dX6_takePage_71 : decode cX6_takePage 71 = .ok (.iload_n 1, 1) := by decide +kernel
theorem dX6_takePage_72 : decode cX6_takePage 72 = .ok (.bipush 27, 2) := by decide +kernel
theorem dX6_takePage_74 : decode cX6_takePage 74 = .ok (.iadd, 1) := by decide +kernel
theorem dX6_takePage_75 : decode cX6_takePage 75 = .ok (.iload 7, 2) := by decide +kernel
theorem dX6_takePage_77 : decode cX6_takePage 77 = .ok (.iadd, 1) := by decide +kernel
theorem dX6_takePage_78 : decode cX6_takePage 78 = .ok (.invokevirtual 60, 3) := by decide +kernel
theorem dX6_takePage_81 : decode cX6_takePage 81 = .ok (.istore 8, 2) := by decide +kernel
theorem dX6_takePage_83 : decode cX6_takePage 83 = .ok (.aload_n 0, 1) := by decide +kernel
theorem dX6_takePage_84 : decode cX6_takePage 84 = .ok (.getfield 19, 3) := by decide +kernel
theorem dX6_takePage_87 : decode cX6_takePage 87 = .ok (.getfield 102, 3) := by decide +kernel
theorem dX6_takePage_90 : decode cX6_takePage 90 = .ok (.aload_n 0, 1) := by decide +kernel
theorem dX6_takePage_91 : decode cX6_takePage 91 = .ok (.getfield 9, 3) := by decide +kernel
theorem dX6_takePage_94 : decode cX6_takePage 94 = .ok (.iload 6, 2) := by decide +kernel
theorem dX6_takePage_96 : decode cX6_takePage 96 = .ok (.iload 8, 2) := by decide +kernel
theorem dX6_takePage_98 : decode cX6_takePage 98 = .ok (.invokevirtual 105, 3) := by decide +kernel
theorem dX6_takePage_101 : decode cX6_takePage 101 = .ok (.iload 6, 2) := by decide +kernel
theorem dX6_takePage_103 : decode cX6_takePage 103 = .ok (.iload 8, 2) := by decide +kernel
theorem dX6_takePage_105 : decode cX6_takePage 105 = .ok (.iadd, 1) := by decide +kernel
theorem dX6_takePage_106 : decode cX6_takePage 106 = .ok (.istore 6, 2) := by decide +kernel
theorem dX6_takePage_108 : decode cX6_takePage 108 = .ok (.aload_n 0, 1) := by decide +kernel
theorem dX6_takePage_109 : decode cX6_takePage 109 = .ok (.iload 8, 2) := by decide +kernel
theorem dX6_takePage_111 : decode cX6_takePage 111 = .ok (.sipush 255, 3) := by decide +kernel
theorem dX6_takePage_114 : decode cX6_takePage 114 = .ok (.if_icmp .ne 7, 3) := by decide +kernel
theorem dX6_takePage_117 : decode cX6_takePage 117 = .ok (.iconst 1, 1) := by decide +kernel
theorem dX6_takePage_118 : decode cX6_takePage 118 = .ok (.goto 4, 3) := by decide +kernel
theorem dX6_takePage_121 : decode cX6_takePage 121 = .ok (.iconst 0, 1) := by decide +kernel
theorem dX6_takePage_122 : decode cX6_takePage 122 = .ok (.putfield 26, 3) := by decide +kernel
theorem dX6_takePage_125 : decode cX6_takePage 125 = .ok (.aload_n 0, 1) := by decide +kernel
theorem dX6_takePage_126 : decode cX6_takePage 126 = .ok (.getfield 26, 3) := by decide +kernel
theorem dX6_takePage_129 : decode cX6_takePage 129 = .ok (.ifCond .ne 25, 3) := by decide +kernel
theorem dX6_takePage_132 : decode cX6_takePage 132 = .ok (.iinc 3 (-1), 3) := by decide +kernel
theorem dX6_takePage_135 : decode cX6_takePage 135 = .ok (.aload_n 0, 1) := by decide +kernel
theorem dX6_takePage_136 : decode cX6_takePage 136 = .ok (.getfield 19, 3) := by decide +kernel
theorem dX6_takePage_139 : decode cX6_takePage 139 = .ok (.iload_n 3, 1) := by decide +kernel
theorem dX6_takePage_140 : decode cX6_takePage 140 = .ok (.ifCond .ne 8, 3) := by decide +kernel
theorem dX6_takePage_143 : decode cX6_takePage 143 = .ok (.lload 4, 2) := by decide +kernel
theorem dX6_takePage_145 : decode cX6_takePage 145 = .ok (.goto 6, 3) := by decide +kernel
theorem dX6_takePage_148 : decode cX6_takePage 148 = .ok (.ldc2_w 98, 3) := by decide +kernel
theorem dX6_takePage_151 : decode cX6_takePage 151 = .ok (.invokevirtual 109, 3) := by decide +kernel
theorem dX6_takePage_154 : decode cX6_takePage 154 = .ok (.iinc 7 1, 3) := by decide +kernel
theorem dX6_takePage_157 : decode cX6_takePage 157 = .ok (.goto (-96), 3) := by decide +kernel
theorem dX6_takePage_160 : decode cX6_takePage 160 = .ok (.aload_n 0, 1) := by decide +kernel
theorem dX6_takePage_161 : decode cX6_takePage 161 = .ok (.aload_n 0, 1) := by decide +kernel
theorem dX6_takePage_162 : decode cX6_takePage 162 = .ok (.getfield 9, 3) := by decide +kernel
theorem dX6_takePage_165 : decode cX6_takePage 165 = .ok (.iload_n 1, 1) := by decide +kernel
theorem dX6_takePage_166 : decode cX6_takePage 166 = .ok (.iconst 5, 1) := by decide +kernel
theorem dX6_takePage_167 : decode cX6_takePage 167 = .ok (.iadd, 1) := by decide +kernel
theorem dX6_takePage_168 : decode cX6_takePage 168 = .ok (.invokevirtual 60, 3) := by decide +kernel
theorem dX6_takePage_171 : decode cX6_takePage 171 = .ok (.iconst 4, 1) := by decide +kernel
theorem dX6_takePage_172 : decode cX6_takePage 172 = .ok (.iand, 1) := by decide +kernel
theorem dX6_takePage_173 : decode cX6_takePage 173 = .ok (.ifCond .eq 7, 3) := by decide +kernel
theorem dX6_takePage_176 : decode cX6_takePage 176 = .ok (.iconst 1, 1) := by decide +kernel
theorem dX6_takePage_177 : decode cX6_takePage 177 = .ok (.goto 4, 3) := by decide +kernel
theorem dX6_takePage_180 : decode cX6_takePage 180 = .ok (.iconst 0, 1) := by decide +kernel
theorem dX6_takePage_181 : decode cX6_takePage 181 = .ok (.putfield 30, 3) := by decide +kernel
theorem dX6_takePage_184 : decode cX6_takePage 184 = .ok (.aload_n 0, 1) := by decide +kernel
theorem dX6_takePage_185 : decode cX6_takePage 185 = .ok (.aload_n 0, 1) := by decide +kernel
theorem dX6_takePage_186 : decode cX6_takePage 186 = .ok (.iload_n 1, 1) := by decide +kernel
theorem dX6_takePage_187 : decode cX6_takePage 187 = .ok (.bipush 14, 2) := by decide +kernel
theorem dX6_takePage_189 : decode cX6_takePage 189 = .ok (.iadd, 1) := by decide +kernel
theorem dX6_takePage_190 : decode cX6_takePage 190 = .ok (.invokevirtual 72, 3) := by decide +kernel
theorem dX6_takePage_193 : decode cX6_takePage 193 = .ok (.putfield 95, 3) := by decide +kernel
theorem dX6_takePage_196 : decode cX6_takePage 196 = .ok (.aload_n 0, 1) := by decide +kernel
theorem dX6_takePage_197 : decode cX6_takePage 197 = .ok (.dup, 1) := by decide +kernel
theorem dX6_takePage_198 : decode cX6_takePage 198 = .ok (.getfield 23, 3) := by decide +kernel
theorem dX6_takePage_201 : decode cX6_takePage 201 = .ok (.iconst 1, 1) := by decide +kernel
theorem dX6_takePage_202 : decode cX6_takePage 202 = .ok (.iadd, 1) := by decide +kernel
theorem dX6_takePage_203 : decode cX6_takePage 203 = .ok (.putfield 23, 3) := by decide +kernel
theorem dX6_takePage_206 : decode cX6_takePage 206 = .ok (.iload 6, 2) := by decide +kernel
theorem dX6_takePage_208 : decode cX6_takePage 208 = .ok (.ireturn, 1) := by decide +kernel
theorem dX7_init_0 : decode cX7_init 0 = .ok (.aload_n 0, 1) := by decide +kernel
theorem dX7_init_1 : decode cX7_init 1 = .ok (.invokespecial 3, 3) := by decide +kernel
theorem dX7_init_4 : decode cX7_init 4 = .ok (.aload_n 0, 1) := by decide +kernel
theorem dX7_init_5 : decode cX7_init 5 = .ok (.sipush 255, 3) := by decide +kernel
theorem dX7_init_8 : decode cX7_init 8 = .ok (.newarray .int, 2) := by decide +kernel
theorem dX7_init_10 : decode cX7_init 10 = .ok (.putfield 11, 3) := by decide +kernel
theorem dX7_init_13 : decode cX7_init 13 = .ok (.return_, 1) := by decide +kernel
set_option maxRecDepth 20000 in
theorem ggX7_write_X7_beginPage : GoodIn wsX7_write wsX7_beginPage := goodIn_r _ [15, 8, 9, 10, 98, 99, 100, 101, 102, 103, 104, 105, 106, 107] (by decide +kernel) (by decide +kernel)
set_option maxRecDepth 20000 in
theorem gX7_write_X7_beginPage : GoodIn wsX7_write (wsV RX7 39 RX7 yX7_beginPage wsX7_beginPage) := goodIn_app (goodIn_of _ (by decide +kernel)) ggX7_write_X7_beginPage
set_option maxRecDepth 20000 in
theorem ggX7_write_X4_bytesOf : GoodIn wsX7_write wsX4_bytesOf := goodIn_r _ [20, 21, 22, 23, 24, 19, 25, 26, 27, 28, 29, 30, 108, 109, 110, 111] (by decide +kernel) (by decide +kernel)
set_option maxRecDepth 20000 in
theorem gX7_write_X4_bytesOf : GoodIn wsX7_write (wsV RX7 47 RX4 yX4_bytesOf wsX4_bytesOf) := goodIn_app (goodIn_of _ (by decide +kernel)) ggX7_write_X4_bytesOf
set_option maxRecDepth 20000 in
theorem ggX7_write_X7_addSegment : GoodIn wsX7_write wsX7_addSegment := goodIn_r _ [34, 8, 35, 98, 99, 100, 101, 102, 103, 104, 105, 106, 107] (by decide +kernel) (by decide +kernel)
set_option maxRecDepth 20000 in
theorem gX7_write_X7_addSegment : GoodIn wsX7_write (wsV RX7 51 RX7 yX7_addSegment wsX7_addSegment) := goodIn_app (goodIn_of _ (by decide +kernel)) ggX7_write_X7_addSegment
set_option maxRecDepth 20000 in
theorem ggX7_write_X7_endPage : GoodIn wsX7_write wsX7_endPage := goodIn_r _ [39, 2, 40, 5, 8, 35, 1, 41, 4, 6, 42, 43, 44, 14, 45, 46, 10, 47, 3, 48, 49, 50, 51, 52, 53, 54, 55, 56, 57, 58, 59, 60, 61, 62, 63, 64, 65, 66, 67, 68, 19, 69, 70, 71, 72, 73, 74, 75, 22, 23, 24, 25, 26, 76, 77, 78, 79, 80, 81, 82, 83, 84, 85, 86, 87, 88, 89, 90, 91, 92, 93, 94, 95, 96, 97, 11, 12, 13, 15, 9, 98, 99, 100, 101, 102, 103, 104, 105, 106, 107, 112, 113, 114, 115, 108, 109, 110, 111] (by decide +kernel) (by decide +kernel)
set_option maxRecDepth 20000 in
theorem gX7_write_X7_endPage : GoodIn wsX7_write (wsV RX7 58 RX7 yX7_endPage wsX7_endPage) := goodIn_app (goodIn_of _ (by decide +kernel)) ggX7_write_X7_endPage
theorem dX7_write_0 : decode cX7_write 0 = .ok (.aload_n 0, 1) := by decide +kernel
theorem dX7_write_1 : decode cX7_write 1 = .ok (.aload_n 1, 1) := by decide +kernel
theorem dX7_write_2 : decode cX7_write 2 = .ok (.putfield 17, 3) := by decide +kernel
theorem dX7_write_5 : decode cX7_write 5 = .ok (.aload_n 0, 1) := by decide +kernel
theorem dX7_write_6 : decode cX7_write 6 = .ok (.aload_n 2, 1) := by decide +kernel
theorem dX7_write_7 : decode cX7_write 7 = .ok (.putfield 21, 3) := by decide +kernel
theorem dX7_write_10 : decode cX7_write 10 = .ok (.aload_n 0, 1) := by decide +kernel
theorem dX7_write_11 : decode cX7_write 11 = .ok (.iload_n 3, 1) := by decide +kernel
theorem dX7_write_12 : decode cX7_write 12 = .ok (.putfield 25, 3) := by decide +kernel
theorem dX7_write_15 : decode cX7_write 15 = .ok (.aload_n 0, 1) := by decide +kernel
theorem dX7_write_16 : decode cX7_write 16 = .ok (.iconst 0, 1) := by decide +kernel
theorem dX7_write_17 : decode cX7_write 17 = .ok (.putfield 29, 3) := by decide +kernel
theorem dX7_write_20 : decode cX7_write 20 = .ok (.aload_n 0, 1) := by decide +kernel
theorem dX7_write_21 : decode cX7_write 21 = .ok (.iconst 0, 1) := by decide +kernel
theorem dX7_write_22 : decode cX7_write 22 = .ok (.putfield 32, 3) := by decide +kernel
theorem dX7_write_25 : decode cX7_write 25 = .ok (.aload_n 0, 1) := by decide +kernel
theorem dX7_write_26 : decode cX7_write 26 = .ok (.iconst 0, 1) := by decide +kernel
theorem dX7_write_27 : decode cX7_write 27 = .ok (.putfield 35, 3) := by decide +kernel
theorem dX7_write_30 : decode cX7_write 30 = .ok (.aload_n 0, 1) := by decide +kernel
theorem dX7_write_31 : decode cX7_write 31 = .ok (.invokevirtual 39, 3) := by decide +kernel
theorem dX7_write_34 : decode cX7_write 34 = .ok (.iconst 0, 1) := by decide +kernel
theorem dX7_write_35 : decode cX7_write 35 = .ok (.istore 6, 2) := by decide +kernel
theorem dX7_write_37 : decode cX7_write 37 = .ok (.iload 6, 2) := by decide +kernel
theorem dX7_write_39 : decode cX7_write 39 = .ok (.aload_n 0, 1) := by decide +kernel
theorem dX7_write_40 : decode cX7_write 40 = .ok (.getfield 17, 3) := by decide +kernel
theorem dX7_write_43 : decode cX7_write 43 = .ok (.getfield 42, 3) := by decide +kernel
theorem dX7_write_46 : decode cX7_write 46 = .ok (.if_icmp .ge 154, 3) := by decide +kernel
theorem dX7_write_49 : decode cX7_write 49 = .ok (.aload_n 0, 1) := by decide +kernel
theorem dX7_write_50 : decode cX7_write 50 = .ok (.getfield 17, 3) := by decide +kernel
theorem dX7_write_53 : decode cX7_write 53 = .ok (.iload 6, 2) := by decide +kernel
theorem dX7_write_55 : decode cX7_write 55 = .ok (.invokevirtual 47, 3) := by decide +kernel
theorem dX7_write_58 : decode cX7_write 58 = .ok (.sipush 255, 3) := by decide +kernel
theorem dX7_write_61 : decode cX7_write 61 = .ok (.idiv, 1) := by decide +kernel
theorem dX7_write_62 : decode cX7_write 62 = .ok (.istore 7, 2) := by decide +kernel
theorem dX7_write_64 : decode cX7_write 64 = .ok (.iconst 0, 1) := by decide +kernel
theorem dX7_write_65 : decode cX7_write 65 = .ok (.istore 8, 2) := by decide +kernel
theorem dX7_write_67 : decode cX7_write 67 = .ok (.iload 8, 2) := by decide +kernel
theorem dX7_write_69 : decode cX7_write 69 = .ok (.iload 7, 2) := by decide +kernel
theorem dX7_write_71 : decode cX7_write 71 = .ok (.if_icmp .ge 31, 3) := by decide +kernel
theorem dX7_write_74 : decode cX7_write 74 = .ok (.aload_n 0, 1) := by decide +kernel
theorem dX7_write_75 : decode cX7_write 75 = .ok (.sipush 255, 3) := by decide +kernel
theorem dX7_write_78 : decode cX7_write 78 = .ok (.invokevirtual 51, 3) := by decide +kernel
theorem dX7_write_81 : decode cX7_write 81 = .ok (.aload_n 0, 1) := by decide +kernel
theorem dX7_write_82 : decode cX7_write 82 = .ok (.getfield 55, 3) := by decide +kernel
theorem dX7_write_85 : decode cX7_write 85 = .ok (.iload 5, 2) := by decide +kernel
theorem dX7_write_87 : decode cX7_write 87 = .ok (.if_icmp .lt 9, 3) := by decide +kernel
theorem dX7_write_90 : decode cX7_write 90 = .ok (.aload_n 0, 1) := by decide +kernel
theorem dX7_write_91 : decode cX7_write 91 = .ok (.iconst 0, 1) := by decide +kernel
theorem dX7_write_92 : decode cX7_write 92 = .ok (.iconst 1, 1) := by decide +kernel
theorem dX7_write_93 : decode cX7_write 93 = .ok (.invokevirtual 58, 3) := by decide +kernel
theorem dX7_write_96 : decode cX7_write 96 = .ok (.iinc 8 1, 3) := by decide +kernel
theorem dX7_write_99 : decode cX7_write 99 = .ok (.goto (-32), 3) := by decide +kernel
theorem dX7_write_102 : decode cX7_write 102 = .ok (.aload_n 0, 1) := by decide +kernel
theorem dX7_write_103 : decode cX7_write 103 = .ok (.aload_n 0, 1) := by decide +kernel
theorem dX7_write_104 : decode cX7_write 104 = .ok (.getfield 17, 3) := by decide +kernel
theorem dX7_write_107 : decode cX7_write 107 = .ok (.iload 6, 2) := by decide +kernel
theorem dX7_write_109 : decode cX7_write 109 = .ok (.invokevirtual 47, 3) := by decide +kernel
theorem dX7_write_112 : decode cX7_write 112 = .ok (.iload 7, 2) := by decide +kernel
theorem dX7_write_114 : decode cX7_write 114 = .ok (.sipush 255, 3) := by decide +kernel
theorem dX7_write_117 : decode cX7_write 117 = .ok (.imul, 1) := by decide +kernel
theorem dX7_write_118 : decode cX7_write 118 = .ok (.isub, 1) := by decide +kernel
theorem dX7_write_119 : decode cX7_write 119 = .ok (.invokevirtual 51, 3) := by decide +kernel
theorem dX7_write_122 : decode cX7_write 122 = .ok (.aload_n 0, 1) := by decide +kernel
theorem dX7_write_123 : decode cX7_write 123 = .ok (.dup, 1) := by decide +kernel
theorem dX7_write_124 : decode cX7_write 124 = .ok (.getfield 62, 3) := by decide +kernel
theorem dX7_write_127 : decode cX7_write 127 = .ok (.iconst 1, 1) := by decide +kernel
theorem dX7_write_128 : decode cX7_write 128 = .ok (.iadd, 1) := by decide +kernel
theorem dX7_write_129 : decode cX7_write 129 = .ok (.putfield 62, 3) := by decide +kernel
theorem dX7_write_132 : decode cX7_write 132 = .ok (.aload_n 0, 1) := by decide +kernel
theorem dX7_write_133 : decode cX7_write 133 = .ok (.iload 6, 2) := by decide +kernel
theorem dX7_write_135 : decode cX7_write 135 = .ok (.putfield 65, 3) := by decide +kernel
theorem dX7_write_138 : decode cX7_write 138 = .ok (.iload 6, 2) := by decide +kernel
theorem dX7_write_140 : decode cX7_write 140 = .ok (.aload_n 0, 1) := by decide +kernel
theorem dX7_write_141 : decode cX7_write 141 = .ok (.getfield 17, 3) := by decide +kernel
theorem dX7_write_144 : decode cX7_write 144 = .ok (.getfield 42, 3) := by decide +kernel
theorem dX7_write_147 : decode cX7_write 147 = .ok (.iconst 1, 1) := by decide +kernel
theorem dX7_write_148 : decode cX7_write 148 = .ok (.isub, 1) := by decide +kernel
theorem dX7_write_149 : decode cX7_write 149 = .ok (.if_icmp .ne 7, 3) := by decide +kernel
theorem dX7_write_152 : decode cX7_write 152 = .ok (.iconst 1, 1) := by decide +kernel
theorem dX7_write_153 : decode cX7_write 153 = .ok (.goto 4, 3) := by decide +kernel
theorem dX7_write_156 : decode cX7_write 156 = .ok (.iconst 0, 1) := by decide +kernel
theorem dX7_write_157 : decode cX7_write 157 = .ok (.istore 8, 2) := by decide +kernel
theorem dX7_write_159 : decode cX7_write 159 = .ok (.iload 8, 2) := by decide +kernel
theorem dX7_write_161 : decode cX7_write 161 = .ok (.ifCond .ne 26, 3) := by decide +kernel
theorem dX7_write_164 : decode cX7_write 164 = .ok (.iload 6, 2) := by decide +kernel
theorem dX7_write_166 : decode cX7_write 166 = .ok (.ifCond .eq 21, 3) := by decide +kernel
theorem dX7_write_169 : decode cX7_write 169 = .ok (.aload_n 0, 1) := by decide +kernel
theorem dX7_write_170 : decode cX7_write 170 = .ok (.getfield 55, 3) := by decide +kernel
theorem dX7_write_173 : decode cX7_write 173 = .ok (.iload 5, 2) := by decide +kernel
theorem dX7_write_175 : decode cX7_write 175 = .ok (.if_icmp .ge 12, 3) := by decide +kernel
theorem dX7_write_178 : decode cX7_write 178 = .ok (.aload_n 0, 1) := by decide +kernel
theorem dX7_write_179 : decode cX7_write 179 = .ok (.getfield 62, 3) := by decide +kernel
theorem dX7_write_182 : decode cX7_write 182 = .ok (.iload 4, 2) := by decide +kernel
theorem dX7_write_184 : decode cX7_write 184 = .ok (.if_icmp .lt 10, 3) := by decide +kernel
theorem dX7_write_187 : decode cX7_write 187 = .ok (.aload_n 0, 1) := by decide +kernel
theorem dX7_write_188 : decode cX7_write 188 = .ok (.iload 8, 2) := by decide +kernel
theorem dX7_write_190 : decode cX7_write 190 = .ok (.iconst 0, 1) := by decide +kernel
theorem dX7_write_191 : decode cX7_write 191 = .ok (.invokevirtual 58, 3) := by decide +kernel
theorem dX7_write_194 : decode cX7_write 194 = .ok (.iinc 6 1, 3) := by decide +kernel
theorem dX7_write_197 : decode cX7_write 197 = .ok (.goto (-160), 3) := by decide +kernel
theorem dX7_write_200 : decode cX7_write 200 = .ok (.return_, 1) := by decide +kernel
theorem dX7_beginPage_0 : decode cX7_beginPage 0 = .ok (.aload_n 0, 1) := by decide +kernel
theorem dX7_beginPage_1 : decode cX7_beginPage 1 = .ok (.iconst 0, 1) := by decide +kernel
theorem dX7_beginPage_2 : decode cX7_beginPage 2 = .ok (.putfield 55, 3) := by decide +kernel
theorem dX7_beginPage_5 : decode cX7_beginPage 5 = .ok (.aload_n 0, 1) := by decide +kernel
theorem dX7_beginPage_6 : decode cX7_beginPage 6 = .ok (.iconst 0, 1) := by decide +kernel
theorem dX7_beginPage_7 : decode cX7_beginPage 7 = .ok (.putfield 62, 3) := by decide +kernel
theorem dX7_beginPage_10 : decode cX7_beginPage 10 = .ok (.aload_n 0, 1) := by decide +kernel
theorem dX7_beginPage_11 : decode cX7_beginPage 11 = .ok (.iconst (-1), 1) := by decide +kernel
theorem dX7_beginPage_12 : decode cX7_beginPage 12 = .ok (.putfield 65, 3) := by decide +kernel
theorem dX7_beginPage_15 : decode cX7_beginPage 15 = .ok (.return_, 1) := by decide +kernel
theorem dX7_addSegment_0 : decode cX7_addSegment 0 = .ok (.aload_n 0, 1) := by decide +kernel
theorem dX7_addSegment_1 : decode cX7_addSegment 1 = .ok (.getfield 55, 3) := by decide +kernel
theorem dX7_addSegment_4 : decode cX7_addSegment 4 = .ok (.aload_n 0, 1) := by decide +kernel
theorem dX7_addSegment_5 : decode cX7_addSegment 5 = .ok (.getfield 11, 3) := by decide +kernel
theorem dX7_addSegment_8 : decode cX7_addSegment 8 = .ok (.arraylength, 1) := by decide +kernel
theorem dX7_addSegment_9 : decode cX7_addSegment 9 = .ok (.if_icmp .ge 23, 3) := by decide +kernel
theorem dX7_addSegment_12 : decode cX7_addSegment 12 = .ok (.aload_n 0, 1) := by decide +kernel
theorem dX7_addSegment_13 : decode cX7_addSegment 13 = .ok (.getfield 11, 3) := by decide +kernel
theorem dX7_addSegment_16 : decode cX7_addSegment 16 = .ok (.aload_n 0, 1) := by decide +kernel
theorem dX7_addSegment_17 : decode cX7_addSegment 17 = .ok (.getfield 55, 3) := by decide +kernel
theorem dX7_addSegment_20 : decode cX7_addSegment 20 = .ok (.iload_n 1, 1) := by decide +kernel
theorem dX7_addSegment_21 : decode cX7_addSegment 21 = .ok (.iastore, 1) := by decide +kernel
theorem dX7_addSegment_22 : decode cX7_addSegment 22 = .ok (.aload_n 0, 1) := by decide +kernel
theorem dX7_addSegment_23 : decode cX7_addSegment 23 = .ok (.dup, 1) := by decide +kernel
theorem dX7_addSegment_24 : decode cX7_addSegment 24 = .ok (.getfield 55, 3) := by decide +kernel
theorem dX7_addSegment_27 : decode cX7_addSegment 27 = .ok (.iconst 1, 1) := by decide +kernel
theorem dX7_addSegment_28 : decode cX7_addSegment 28 = .ok (.iadd, 1) := by decide +kernel
theorem dX7_addSegment_29 : decode cX7_addSegment 29 = .ok (.putfield 55, 3) := by decide +kernel
theorem dX7_addSegment_32 : decode cX7_addSegment 32 = .ok (.return_, 1) := by decide +kernel
set_option maxRecDepth 20000 in
theorem ggX7_endPage_X7_putHeader : GoodIn wsX7_endPage wsX7_putHeader := goodIn_r _ [14, 9, 8, 1, 15, 16, 17, 6, 18, 4, 19, 20, 21, 22, 23, 24, 25, 26, 27, 28, 29, 30, 31, 32, 33, 34, 35, 36, 37, 38, 39, 40, 41, 42, 43, 44, 45, 46, 47, 48, 49, 50, 51, 52, 53, 54, 55, 56, 80, 81, 82, 83, 84, 85, 86, 87, 88, 89, 90, 91, 92, 93, 94, 95, 96, 97] (by decide +kernel) (by decide +kernel)
set_option maxRecDepth 20000 in
theorem gX7_endPage_X7_putHeader : GoodIn wsX7_endPage (wsV RX7 73 RX7 yX7_putHeader wsX7_putHeader) := goodIn_app (goodIn_of _ (by decide +kernel)) ggX7_endPage_X7_putHeader
set_option maxRecDepth 20000 in
theorem ggX7_endPage_X8_add : GoodIn wsX7_endPage wsX8_add := goodIn_r _ [27, 28, 29, 30, 31, 32, 33, 22, 34, 35, 90, 91, 92, 93] (by decide +kernel) (by decide +kernel)
set_option maxRecDepth 20000 in
theorem gX7_endPage_X8_add : GoodIn wsX7_endPage (wsV RX7 77 RX8 yX8_add wsX8_add) := goodIn_app (goodIn_of _ (by decide +kernel)) ggX7_endPage_X8_add
set_option maxRecDepth 20000 in
theorem ggX7_endPage_X8_addPart : GoodIn wsX7_endPage wsX8_addPart := goodIn_r _ [60, 61, 62, 63, 22, 64, 28, 35, 24, 25, 26, 27, 29, 30, 31, 32, 33, 34, 90, 91, 92, 93] (by decide +kernel) (by decide +kernel)
set_option maxRecDepth 20000 in
theorem gX7_endPage_X8_addPart : GoodIn wsX7_endPage (wsV RX7 83 RX8 yX8_addPart wsX8_addPart) := goodIn_app (goodIn_of _ (by decide +kernel)) ggX7_endPage_X8_addPart
set_option maxRecDepth 20000 in
theorem ggX7_endPage_X5_makeSumRight : GoodIn wsX7_endPage wsX5_makeSumRight := goodIn_r _ [68, 69, 70, 67, 71, 72, 73, 62, 63, 22, 64, 28, 35, 74, 32, 33, 34, 90, 91, 92, 93] (by decide +kernel) (by decide +kernel)
set_option maxRecDepth 20000 in
theorem gX7_endPage_X5_makeSumRight : GoodIn wsX7_endPage (va_wsS RX7 87 yX5_makeSumRight wsX5_makeSumRight) := goodIn_app (goodIn_of _ (by decide +kernel)) ggX7_endPage_X5_makeSumRight
set_option maxRecDepth 20000 in
theorem ggX7_endPage_X7_beginPage : GoodIn wsX7_endPage wsX7_beginPage := goodIn_r _ [78, 4, 79, 16, 80, 81, 82, 83, 84, 85, 86, 87, 88, 89] (by decide +kernel) (by decide +kernel)
set_option maxRecDepth 20000 in
theorem gX7_endPage_X7_beginPage : GoodIn wsX7_endPage (wsV RX7 39 RX7 yX7_beginPage wsX7_beginPage) := goodIn_app (goodIn_of _ (by decide +kernel)) ggX7_endPage_X7_beginPage
theorem dX7_endPage_0 : decode cX7_endPage 0 = .ok (.aload_n 0, 1) := by decide +kernel
theorem dX7_endPage_1 : decode cX7_endPage 1 = .ok (.getfield 21, 3) := by decide +kernel
theorem dX7_endPage_4 : decode cX7_endPage 4 = .ok (.getfield 68, 3) := by decide +kernel
theorem dX7_endPage_7 : decode cX7_endPage 7 = .ok (.istore_n 3, 1) := by decide +kernel
theorem dX7_endPage_8 : decode cX7_endPage 8 = .ok (.aload_n 0, 1) := by decide +kernel
theorem dX7_endPage_9 : decode cX7_endPage 9 = .ok (.iload_n 1, 1) := by decide +kernel
theorem dX7_endPage_10 : decode cX7_endPage 10 = .ok (.invokevirtual 73, 3) := by decide +kernel
theorem dX7_endPage_13 : decode cX7_endPage 13 = .ok (.aload_n 0, 1) := by decide +kernel
theorem dX7_endPage_14 : decode cX7_endPage 14 = .ok (.getfield 32, 3) := by decide +kernel
theorem dX7_endPage_17 : decode cX7_endPage 17 = .ok (.istore 4, 2) := by decide +kernel
theorem dX7_endPage_19 : decode cX7_endPage 19 = .ok (.iconst 0, 1) := by decide +kernel
theorem dX7_endPage_20 : decode cX7_endPage 20 = .ok (.istore 5, 2) := by decide +kernel
theorem dX7_endPage_22 : decode cX7_endPage 22 = .ok (.iload 5, 2) := by decide +kernel
theorem dX7_endPage_24 : decode cX7_endPage 24 = .ok (.aload_n 0, 1) := by decide +kernel
theorem dX7_endPage_25 : decode cX7_endPage 25 = .ok (.getfield 55, 3) := by decide +kernel
theorem dX7_endPage_28 : decode cX7_endPage 28 = .ok (.if_icmp .ge 35, 3) := by decide +kernel
theorem dX7_endPage_31 : decode cX7_endPage 31 = .ok (.aload_n 0, 1) := by decide +kernel
theorem dX7_endPage_32 : decode cX7_endPage 32 = .ok (.getfield 21, 3) := by decide +kernel
theorem dX7_endPage_35 : decode cX7_endPage 35 = .ok (.aload_n 0, 1) := by decide +kernel
theorem dX7_endPage_36 : decode cX7_endPage 36 = .ok (.getfield 11, 3) := by decide +kernel
theorem dX7_endPage_39 : decode cX7_endPage 39 = .ok (.iload 5, 2) := by decide +kernel
theorem dX7_endPage_41 : decode cX7_endPage 41 = .ok (.iaload, 1) := by decide +kernel
theorem dX7_endPage_42 : decode cX7_endPage 42 = .ok (.invokevirtual 77, 3) := by decide +kernel
theorem dX7_endPage_45 : decode cX7_endPage 45 = .ok (.iload 4, 2) := by decide +kernel
theorem dX7_endPage_47 : decode cX7_endPage 47 = .ok (.aload_n 0, 1) := by decide +kernel
theorem dX7_endPage_48 : decode cX7_endPage 48 = .ok (.getfield 11, 3) := by decide +kernel
theorem dX7_endPage_51 : decode cX7_endPage 51 = .ok (.iload 5, 2) := by decide +kernel
theorem dX7_endPage_53 : decode cX7_endPage 53 = .ok (.iaload, 1) := by decide +kernel
theorem dX7_endPage_54 : decode cX7_endPage 54 = .ok (.iadd, 1) := by decide +kernel
theorem dX7_endPage_55 : decode cX7_endPage 55 = .ok (.istore 4, 2) := by decide +kernel
theorem dX7_endPage_57 : decode cX7_endPage 57 = .ok (.iinc 5 1, 3) := by decide +kernel
theorem dX7_endPage_60 : decode cX7_endPage 60 = .ok (.goto (-38), 3) := by decide +kernel
theorem dX7_endPage_63 : decode cX7_endPage 63 = .ok (.aload_n 0, 1) := by decide +kernel
theorem dX7_endPage_64 : decode cX7_endPage 64 = .ok (.getfield 21, 3) := by decide +kernel
theorem dX7_endPage_67 : decode cX7_endPage 67 = .ok (.aload_n 0, 1) := by decide +kernel
theorem dX7_endPage_68 : decode cX7_endPage 68 = .ok (.getfield 17, 3) := by decide +kernel
theorem dX7_endPage_71 : decode cX7_endPage 71 = .ok (.getfield 80, 3) := by decide +kernel
theorem dX7_endPage_74 : decode cX7_endPage 74 = .ok (.aload_n 0, 1) := by decide +kernel
theorem dX7_endPage_75 : decode cX7_endPage 75 = .ok (.getfield 32, 3) := by decide +kernel
theorem dX7_endPage_78 : decode cX7_endPage 78 = .ok (.iload 4, 2) := by decide +kernel
theorem dX7_endPage_80 : decode cX7_endPage 80 = .ok (.aload_n 0, 1) := by decide +kernel
theorem dX7_endPage_81 : decode cX7_endPage 81 = .ok (.getfield 32, 3) := by decide +kernel
theorem dX7_endPage_84 : decode cX7_endPage 84 = .ok (.isub, 1) := by decide +kernel
theorem dX7_endPage_85 : decode cX7_endPage 85 = .ok (.invokevirtual 83, 3) := by decide +kernel
theorem dX7_endPage_88 : decode cX7_endPage 88 = .ok (.aload_n 0, 1) := by decide +kernel
theorem dX7_endPage_89 : decode cX7_endPage 89 = .ok (.getfield 21, 3) := by decide +kernel
theorem dX7_endPage_92 : decode cX7_endPage 92 = .ok (.iload_n 3, 1) := by decide +kernel
theorem dX7_endPage_93 : decode cX7_endPage 93 = .ok (.aload_n 0, 1) := by decide +kernel
theorem dX7_endPage_94 : decode cX7_endPage 94 = .ok (.getfield 21, 3) := by decide +kernel
theorem dX7_endPage_97 : decode cX7_endPage 97 = .ok (.getfield 68, 3) := by decide +kernel
theorem dX7_endPage_100 : decode cX7_endPage 100 = .ok (.invokestatic 87, 3) := by decide +kernel
theorem dX7_endPage_103 : decode cX7_endPage 103 = .ok (.aload_n 0, 1) := by decide +kernel
theorem dX7_endPage_104 : decode cX7_endPage 104 = .ok (.iload 4, 2) := by decide +kernel
theorem dX7_endPage_106 : decode cX7_endPage 106 = .ok (.putfield 32, 3) := by decide +kernel
theorem dX7_endPage_109 : decode cX7_endPage 109 = .ok (.aload_n 0, 1) := by decide +kernel
theorem dX7_endPage_110 : decode cX7_endPage 110 = .ok (.dup, 1) := by decide +kernel
theorem dX7_endPage_111 : decode cX7_endPage 111 = .ok (.getfield 29, 3) := by decide +kernel
theorem dX7_endPage_114 : decode cX7_endPage 114 = .ok (.iconst 1, 1) := by decide +kernel
theorem dX7_endPage_115 : decode cX7_endPage 115 = .ok (.iadd, 1) := by decide +kernel
theorem dX7_endPage_116 : decode cX7_endPage 116 = .ok (.putfield 29, 3) := by decide +kernel
theorem dX7_endPage_119 : decode cX7_endPage 119 = .ok (.aload_n 0, 1) := by decide +kernel
theorem dX7_endPage_120 : decode cX7_endPage 120 = .ok (.iload_n 2, 1) := by decide +kernel
theorem dX7_endPage_121 : decode cX7_endPage 121 = .ok (.putfield 35, 3) := by decide +kernel
theorem dX7_endPage_124 : decode cX7_endPage 124 = .ok (.aload_n 0, 1) := by decide +kernel
theorem dX7_endPage_125 : decode cX7_endPage 125 = .ok (.invokevirtual 39, 3) := by decide +kernel
theorem dX7_endPage_128 : decode cX7_endPage 128 = .ok (.return_, 1) := by decide +kernel
set_option maxRecDepth 20000 in
theorem ggX7_putHeader_X8_addHighFirst : GoodIn wsX7_putHeader wsX8_addHighFirst := goodIn_r _ [14, 15, 16, 17, 13, 18, 19, 20, 21, 22, 23, 24, 25, 26, 58, 59, 60, 61] (by decide +kernel) (by decide +kernel)
set_option maxRecDepth 20000 in
theorem gX7_putHeader_X8_addHighFirst : GoodIn wsX7_putHeader (wsV RX7 92 RX8 yX8_addHighFirst wsX8_addHighFirst) := goodIn_app (goodIn_of _ (by decide +kernel)) ggX7_putHeader_X8_addHighFirst
set_option maxRecDepth 20000 in
theorem ggX7_putHeader_X8_add : GoodIn wsX7_putHeader wsX8_add := goodIn_r _ [18, 19, 20, 21, 22, 23, 24, 13, 25, 26, 58, 59, 60, 61] (by decide +kernel) (by decide +kernel)
set_option maxRecDepth 20000 in
theorem gX7_putHeader_X8_add : GoodIn wsX7_putHeader (wsV RX7 77 RX8 yX8_add wsX8_add) := goodIn_app (goodIn_of _ (by decide +kernel)) ggX7_putHeader_X8_add
set_option maxRecDepth 20000 in
theorem ggX7_putHeader_X4_timeToWrite : GoodIn wsX7_putHeader wsX4_timeToWrite := goodIn_r _ [32, 33, 34, 35, 36, 31, 37, 38, 39, 40, 41, 42, 43, 62, 63, 64, 65] (by decide +kernel) (by decide +kernel)
set_option maxRecDepth 20000 in
theorem gX7_putHeader_X4_timeToWrite : GoodIn wsX7_putHeader (wsV RX7 98 RX4 yX4_timeToWrite wsX4_timeToWrite) := goodIn_app (goodIn_of _ (by decide +kernel)) ggX7_putHeader_X4_timeToWrite
set_option maxRecDepth 20000 in
theorem ggX7_putHeader_X8_addLowFirst : GoodIn wsX7_putHeader wsX8_addLowFirst := goodIn_r _ [47, 15, 16, 17, 13, 18, 19, 20, 21, 22, 23, 24, 25, 26, 58, 59, 60, 61] (by decide +kernel) (by decide +kernel)
set_option maxRecDepth 20000 in
theorem gX7_putHeader_X8_addLowFirst : GoodIn wsX7_putHeader (wsV RX7 102 RX8 yX8_addLowFirst wsX8_addLowFirst) := goodIn_app (goodIn_of _ (by decide +kernel)) ggX7_putHeader_X8_addLowFirst
theorem dX7_putHeader_0 : decode cX7_putHeader 0 = .ok (.aload_n 0, 1) := by decide +kernel
theorem dX7_putHeader_1 : decode cX7_putHeader 1 = .ok (.getfield 35, 3) := by decide +kernel
theorem dX7_putHeader_4 : decode cX7_putHeader 4 = .ok (.ifCond .eq 7, 3) := by decide +kernel
theorem dX7_putHeader_7 : decode cX7_putHeader 7 = .ok (.iconst 1, 1) := by decide +kernel
theorem dX7_putHeader_8 : decode cX7_putHeader 8 = .ok (.goto 4, 3) := by decide +kernel
theorem dX7_putHeader_11 : decode cX7_putHeader 11 = .ok (.iconst 0, 1) := by decide +kernel
theorem dX7_putHeader_12 : decode cX7_putHeader 12 = .ok (.istore_n 2, 1) := by decide +kernel
theorem dX7_putHeader_13 : decode cX7_putHeader 13 = .ok (.iload_n 2, 1) := by decide +kernel
theorem dX7_putHeader_14 : decode cX7_putHeader 14 = .ok (.aload_n 0, 1) := by decide +kernel
theorem dX7_putHeader_15 : decode cX7_putHeader 15 = .ok (.getfield 29, 3) := by decide +kernel
theorem dX7_putHeader_18 : decode cX7_putHeader 18 = .ok (.ifCond .ne 7, 3) := by decide +kernel
theorem dX7_putHeader_21 : decode cX7_putHeader 21 = .ok (.iconst 2, 1) := by decide +kernel
theorem dX7_putHeader_22 : decode cX7_putHeader 22 = .ok (.goto 4, 3) := by decide +kernel
theorem dX7_putHeader_25 : decode cX7_putHeader 25 = .ok (.iconst 0, 1) := by decide +kernel
theorem dX7_putHeader_26 : decode cX7_putHeader 26 = .ok (.ior, 1) := by decide +kernel
theorem dX7_putHeader_27 : decode cX7_putHeader 27 = .ok (.istore_n 2, 1) := by decide +kernel
theorem dX7_putHeader_28 : decode cX7_putHeader 28 = .ok (.iload_n 2, 1) := by decide +kernel
theorem dX7_putHeader_29 : decode cX7_putHeader 29 = .ok (.iload_n 1, 1) := by decide +kernel
theorem dX7_putHeader_30 : decode cX7_putHeader 30 = .ok (.ifCond .eq 7, 3) := by decide +kernel
theorem dX7_putHeader_33 : decode cX7_putHeader 33 = .ok (.iconst 4, 1) := by decide +kernel
theorem dX7_putHeader_34 : decode cX7_putHeader 34 = .ok (.goto 4, 3) := by decide +kernel
theorem dX7_putHeader_37 : decode cX7_putHeader 37 = .ok (.iconst 0, 1) := by decide +kernel
theorem dX7_putHeader_38 : decode cX7_putHeader 38 = .ok (.ior, 1) := by decide +kernel
theorem dX7_putHeader_39 : decode cX7_putHeader 39 = .ok (.istore_n 2, 1) := by decide +kernel
theorem dX7_putHeader_40 : decode cX7_putHeader 40 = .ok (.aload_n 0, 1) := by decide +kernel
theorem dX7_putHeader_41 : decode cX7_putHeader 41 = .ok (.getfield 21, 3) := by decide +kernel
theorem dX7_putHeader_44 : decode cX7_putHeader 44 = .ok (.ldc2_w 90, 3) := by decide +kernel
theorem dX7_putHeader_47 : decode cX7_putHeader 47 = .ok (.iconst 4, 1) := by decide +kernel
theorem dX7_putHeader_48 : decode cX7_putHeader 48 = .ok (.invokevirtual 92, 3) := by decide +kernel
theorem dX7_putHeader_51 : decode cX7_putHeader 51 = .ok (.aload_n 0, 1) := by decide +kernel
theorem dX7_putHeader_52 : decode cX7_putHeader 52 = .ok (.getfield 21, 3) := by decide +kernel
theorem dX7_putHeader_55 : decode cX7_putHeader 55 = .ok (.iconst 0, 1) := by decide +kernel
theorem dX7_putHeader_56 : decode cX7_putHeader 56 = .ok (.invokevirtual 77, 3) := by decide +kernel
theorem dX7_putHeader_59 : decode cX7_putHeader 59 = .ok (.aload_n 0, 1) := by decide +kernel
theorem dX7_putHeader_60 : decode cX7_putHeader 60 = .ok (.getfield 21, 3) := by decide +kernel
theorem dX7_putHeader_63 : decode cX7_putHeader 63 = .ok (.iload_n 2, 1) := by decide +kernel
theorem dX7_putHeader_64 : decode cX7_putHeader 64 = .ok (.invokevirtual 77, 3) := by decide +kernel
theorem dX7_putHeader_67 : decode cX7_putHeader 67 = .ok (.aload_n 0, 1) := by decide +kernel
theorem dX7_putHeader_68 : decode cX7_putHeader 68 = .ok (.getfield 21, 3) := by decide +kernel
theorem dX7_putHeader_71 : decode cX7_putHeader 71 = .ok (.aload_n 0, 1) := by decide +kernel
theorem dX7_putHeader_72 : decode cX7_putHeader 72 = .ok (.getfield 65, 3) := by decide +kernel
theorem dX7_putHeader_75 : decode cX7_putHeader 75 = .ok (.iconst (-1), 1) := by decide +kernel
theorem dX7_putHeader_76 : decode cX7_putHeader 76 = .ok (.if_icmp .ne 9, 3) := by decide +kernel
theorem dX7_putHeader_79 : decode cX7_putHeader 79 = .ok (.ldc2_w 96, 3) := by decide +kernel
theorem dX7_putHeader_82 : decode cX7_putHeader 82 = .ok (.goto 14, 3) := by decide +kernel
theorem dX7_putHeader_85 : decode cX7_putHeader 85 = .ok (.aload_n 0, 1) := by decide +kernel
theorem dX7_putHeader_86 : decode cX7_putHeader 86 = .ok (.getfield 17, 3) := by decide +kernel
theorem dX7_putHeader_89 : decode cX7_putHeader 89 = .ok (.aload_n 0, 1) := by decide +kernel
theorem dX7_putHeader_90 : decode cX7_putHeader 90 = .ok (.getfield 65, 3) := by decide +kernel
theorem dX7_putHeader_93 : decode cX7_putHeader 93 = .ok (.invokevirtual 98, 3) := by decide +kernel
theorem dX7_putHeader_96 : decode cX7_putHeader 96 = .ok (.bipush 8, 2) := by decide +kernel
theorem dX7_putHeader_98 : decode cX7_putHeader 98 = .ok (.invokevirtual 102, 3) := by decide +kernel
theorem dX7_putHeader_101 : decode cX7_putHeader 101 = .ok (.aload_n 0, 1) := by decide +kernel
theorem dX7_putHeader_102 : decode cX7_putHeader 102 = .ok (.getfield 21, 3) := by decide +kernel
theorem dX7_putHeader_105 : decode cX7_putHeader 105 = .ok (.aload_n 0, 1) := by decide +kernel
theorem dX7_putHeader_106 : decode cX7_putHeader 106 = .ok (.getfield 25, 3) := by decide +kernel
theorem dX7_putHeader_109 : decode cX7_putHeader 109 = .ok (.i2l, 1) := by decide +kernel
theorem dX7_putHeader_110 : decode cX7_putHeader 110 = .ok (.iconst 4, 1) := by decide +kernel
theorem dX7_putHeader_111 : decode cX7_putHeader 111 = .ok (.invokevirtual 102, 3) := by decide +kernel
theorem dX7_putHeader_114 : decode cX7_putHeader 114 = .ok (.aload_n 0, 1) := by decide +kernel
theorem dX7_putHeader_115 : decode cX7_putHeader 115 = .ok (.getfield 21, 3) := by decide +kernel
theorem dX7_putHeader_118 : decode cX7_putHeader 118 = .ok (.aload_n 0, 1) := by decide +kernel
theorem dX7_putHeader_119 : decode cX7_putHeader 119 = .ok (.getfield 29, 3) := by decide +kernel
theorem dX7_putHeader_122 : decode cX7_putHeader 122 = .ok (.i2l, 1) := by decide +kernel
theorem dX7_putHeader_123 : decode cX7_putHeader 123 = .ok (.iconst 4, 1) := by decide +kernel
theorem dX7_putHeader_124 : decode cX7_putHeader 124 = .ok (.invokevirtual 102, 3) := by decide +kernel
theorem dX7_putHeader_127 : decode cX7_putHeader 127 = .ok (.aload_n 0, 1) := by decide +kernel
theorem dX7_putHeader_128 : decode cX7_putHeader 128 = .ok (.getfield 21, 3) := by decide +kernel
theorem dX7_putHeader_131 : decode cX7_putHeader 131 = .ok (.lconst 0, 1) := by decide +kernel
theorem dX7_putHeader_132 : decode cX7_putHeader 132 = .ok (.iconst 4, 1) := by decide +kernel
theorem dX7_putHeader_133 : decode cX7_putHeader 133 = .ok (.invokevirtual 102, 3) := by decide +kernel
theorem dX7_putHeader_136 : decode cX7_putHeader 136 = .ok (.aload_n 0, 1) := by decide +kernel
theorem dX7_putHeader_137 : decode cX7_putHeader 137 = .ok (.getfield 21, 3) := by decide +kernel
theorem dX7_putHeader_140 : decode cX7_putHeader 140 = .ok (.aload_n 0, 1) := by decide +kernel
theorem dX7_putHeader_141 : decode cX7_putHeader 141 = .ok (.getfield 55, 3) := by decide +kernel
theorem dX7_putHeader_144 : decode cX7_putHeader 144 = .ok (.invokevirtual 77, 3) := by decide +kernel
theorem dX7_putHeader_147 : decode cX7_putHeader 147 = .ok (.return_, 1) := by decide +kernel
theorem dX8_init_0 : decode cX8_init 0 = .ok (.aload_n 0, 1) := by decide +kernel
theorem dX8_init_1 : decode cX8_init 1 = .ok (.invokespecial 3, 3) := by decide +kernel
theorem dX8_init_4 : decode cX8_init 4 = .ok (.aload_n 0, 1) := by decide +kernel
theorem dX8_init_5 : decode cX8_init 5 = .ok (.iload_n 1, 1) := by decide +kernel
theorem dX8_init_6 : decode cX8_init 6 = .ok (.iconst 0, 1) := by decide +kernel
theorem dX8_init_7 : decode cX8_init 7 = .ok (.invokestatic 9, 3) := by decide +kernel
theorem dX8_init_10 : decode cX8_init 10 = .ok (.putfield 15, 3) := by decide +kernel
theorem dX8_init_13 : decode cX8_init 13 = .ok (.aload_n 0, 1) := by decide +kernel
theorem dX8_init_14 : decode cX8_init 14 = .ok (.aload_n 0, 1) := by decide +kernel
theorem dX8_init_15 : decode cX8_init 15 = .ok (.getfield 15, 3) := by decide +kernel
theorem dX8_init_18 : decode cX8_init 18 = .ok (.iconst 4, 1) := by decide +kernel
theorem dX8_init_19 : decode cX8_init 19 = .ok (.idiv, 1) := by decide +kernel
theorem dX8_init_20 : decode cX8_init 20 = .ok (.iconst 1, 1) := by decide +kernel
theorem dX8_init_21 : decode cX8_init 21 = .ok (.iadd, 1) := by decide +kernel
theorem dX8_init_22 : decode cX8_init 22 = .ok (.newarray .int, 2) := by decide +kernel
theorem dX8_init_24 : decode cX8_init 24 = .ok (.putfield 21, 3) := by decide +kernel
theorem dX8_init_27 : decode cX8_init 27 = .ok (.return_, 1) := by decide +kernel
theorem dX8_empty_0 : decode cX8_empty 0 = .ok (.aload_n 0, 1) := by decide +kernel
theorem dX8_empty_1 : decode cX8_empty 1 = .ok (.iconst 0, 1) := by decide +kernel
theorem dX8_empty_2 : decode cX8_empty 2 = .ok (.putfield 25, 3) := by decide +kernel
theorem dX8_empty_5 : decode cX8_empty 5 = .ok (.aload_n 0, 1) := by decide +kernel
theorem dX8_empty_6 : decode cX8_empty 6 = .ok (.iconst 0, 1) := by decide +kernel
theorem dX8_empty_7 : decode cX8_empty 7 = .ok (.putfield 28, 3) := by decide +kernel
theorem dX8_empty_10 : decode cX8_empty 10 = .ok (.return_, 1) := by decide +kernel
theorem dX8_at_0 : decode cX8_at 0 = .ok (.iload_n 1, 1) := by decide +kernel
theorem dX8_at_1 : decode cX8_at 1 = .ok (.ifCond .lt 11, 3) := by decide +kernel
theorem dX8_at_4 : decode cX8_at 4 = .ok (.iload_n 1, 1) := by decide +kernel
theorem dX8_at_5 : decode cX8_at 5 = .ok (.aload_n 0, 1) := by decide +kernel
theorem dX8_at_6 : decode cX8_at 6 = .ok (.getfield 25, 3) := by decide +kernel
theorem dX8_at_9 : decode cX8_at 9 = .ok (.if_icmp .lt 5, 3) := by decide +kernel
theorem dX8_at_12 : decode cX8_at 12 = .ok (.iconst (-1), 1) := by decide +kernel
theorem dX8_at_13 : decode cX8_at 13 = .ok (.ireturn, 1) := by decide +kernel
theorem dX8_at_14 : decode cX8_at 14 = .ok (.aload_n 0, 1) := by decide +kernel
theorem dX8_at_15 : decode cX8_at 15 = .ok (.getfield 21, 3) := by decide +kernel
theorem dX8_at_18 : decode cX8_at 18 = .ok (.iload_n 1, 1) := by decide +kernel
theorem dX8_at_19 : decode cX8_at 19 = .ok (.iconst 2, 1) := by decide +kernel
theorem dX8_at_20 : decode cX8_at 20 = .ok (.ishr, 1) := by decide +kernel
theorem dX8_at_21 : decode cX8_at 21 = .ok (.iaload, 1) := by decide +kernel
theorem dX8_at_22 : decode cX8_at 22 = .ok (.bipush 8, 2) := by decide +kernel
theorem dX8_at_24 : decode cX8_at 24 = .ok (.iload_n 1, 1) := by decide +kernel
theorem dX8_at_25 : decode cX8_at 25 = .ok (.iconst 3, 1) := by decide +kernel
theorem dX8_at_26 : decode cX8_at 26 = .ok (.iand, 1) := by decide +kernel
theorem dX8_at_27 : decode cX8_at 27 = .ok (.imul, 1) := by decide +kernel
theorem dX8_at_28 : decode cX8_at 28 = .ok (.iushr, 1) := by decide +kernel
theorem dX8_at_29 : decode cX8_at 29 = .ok (.sipush 255, 3) := by decide +kernel
theorem dX8_at_32 : decode cX8_at 32 = .ok (.iand, 1) := by decide +kernel
theorem dX8_at_33 : decode cX8_at 33 = .ok (.ireturn, 1) := by decide +kernel
theorem dX8_change_0 : decode cX8_change 0 = .ok (.iload_n 1, 1) := by decide +kernel
theorem dX8_change_1 : decode cX8_change 1 = .ok (.ifCond .lt 11, 3) := by decide +kernel
theorem dX8_change_4 : decode cX8_change 4 = .ok (.iload_n 1, 1) := by decide +kernel
theorem dX8_change_5 : decode cX8_change 5 = .ok (.aload_n 0, 1) := by decide +kernel
theorem dX8_change_6 : decode cX8_change 6 = .ok (.getfield 25, 3) := by decide +kernel
theorem dX8_change_9 : decode cX8_change 9 = .ok (.if_icmp .lt 5, 3) := by decide +kernel
theorem dX8_change_12 : decode cX8_change 12 = .ok (.iconst 0, 1) := by decide +kernel
theorem dX8_change_13 : decode cX8_change 13 = .ok (.ireturn, 1) := by decide +kernel
theorem dX8_change_14 : decode cX8_change 14 = .ok (.bipush 8, 2) := by decide +kernel
theorem dX8_change_16 : decode cX8_change 16 = .ok (.iload_n 1, 1) := by decide +kernel
theorem dX8_change_17 : decode cX8_change 17 = .ok (.iconst 3, 1) := by decide +kernel
theorem dX8_change_18 : decode cX8_change 18 = .ok (.iand, 1) := by decide +kernel
theorem dX8_change_19 : decode cX8_change 19 = .ok (.imul, 1) := by decide +kernel
theorem dX8_change_20 : decode cX8_change 20 = .ok (.istore_n 3, 1) := by decide +kernel
theorem dX8_change_21 : decode cX8_change 21 = .ok (.aload_n 0, 1) := by decide +kernel
theorem dX8_change_22 : decode cX8_change 22 = .ok (.getfield 21, 3) := by decide +kernel
theorem dX8_change_25 : decode cX8_change 25 = .ok (.iload_n 1, 1) := by decide +kernel
theorem dX8_change_26 : decode cX8_change 26 = .ok (.iconst 2, 1) := by decide +kernel
theorem dX8_change_27 : decode cX8_change 27 = .ok (.ishr, 1) := by decide +kernel
theorem dX8_change_28 : decode cX8_change 28 = .ok (.aload_n 0, 1) := by decide +kernel
theorem dX8_change_29 : decode cX8_change 29 = .ok (.getfield 21, 3) := by decide +kernel
theorem dX8_change_32 : decode cX8_change 32 = .ok (.iload_n 1, 1) := by decide +kernel
theorem dX8_change_33 : decode cX8_change 33 = .ok (.iconst 2, 1) := by decide +kernel
theorem dX8_change_34 : decode cX8_change 34 = .ok (.ishr, 1) := by decide +kernel
theorem dX8_change_35 : decode cX8_change 35 = .ok (.iaload, 1) := by decide +kernel
theorem dX8_change_36 : decode cX8_change 36 = .ok (.sipush 255, 3) := by decide +kernel
theorem dX8_change_39 : decode cX8_change 39 = .ok (.iload_n 3, 1) := by decide +kernel
theorem dX8_change_40 : decode cX8_change 40 = .ok (.ishl, 1) := by decide +kernel
theorem dX8_change_41 : decode cX8_change 41 = .ok (.iconst (-1), 1) := by decide +kernel
theorem dX8_change_42 : decode cX8_change 42 = .ok (.ixor, 1) := by decide +kernel
theorem dX8_change_43 : decode cX8_change 43 = .ok (.iand, 1) := by decide +kernel
theorem dX8_change_44 : decode cX8_change 44 = .ok (.iload_n 2, 1) := by decide +kernel
theorem dX8_change_45 : decode cX8_change 45 = .ok (.sipush 255, 3) := by decide +kernel
theorem dX8_change_48 : decode cX8_change 48 = .ok (.iand, 1) := by decide +kernel
theorem dX8_change_49 : decode cX8_change 49 = .ok (.iload_n 3, 1) := by decide +kernel
theorem dX8_change_50 : decode cX8_change 50 = .ok (.ishl, 1) := by decide +kernel
theorem dX8_change_51 : decode cX8_change 51 = .ok (.ior, 1) := by decide +kernel
theorem dX8_change_52 : decode cX8_change 52 = .ok (.iastore, 1) := by decide +kernel
theorem dX8_change_53 : decode cX8_change 53 = .ok (.iconst 1, 1) := by decide +kernel
theorem dX8_change_54 : decode cX8_change 54 = .ok (.ireturn, 1) := by decide +kernel
set_option maxRecDepth 20000 in
theorem ggX8_add_X8_change : GoodIn wsX8_add wsX8_change := goodIn_r _ [8, 1, 9, 10, 11, 12, 13] (by decide +kernel) (by decide +kernel)
set_option maxRecDepth 20000 in
theorem gX8_add_X8_change : GoodIn wsX8_add (wsV RX8 32 RX8 yX8_change wsX8_change) := goodIn_app (goodIn_of _ (by decide +kernel)) ggX8_add_X8_change
theorem dX8_add_0 : decode cX8_add 0 = .ok (.aload_n 0, 1) := by decide +kernel
theorem dX8_add_1 : decode cX8_add 1 = .ok (.getfield 25, 3) := by decide +kernel
theorem dX8_add_4 : decode cX8_add 4 = .ok (.aload_n 0, 1) := by decide +kernel
theorem dX8_add_5 : decode cX8_add 5 = .ok (.getfield 15, 3) := by decide +kernel
theorem dX8_add_8 : decode cX8_add 8 = .ok (.if_icmp .lt 9, 3) := by decide +kernel
theorem dX8_add_11 : decode cX8_add 11 = .ok (.aload_n 0, 1) := by decide +kernel
theorem dX8_add_12 : decode cX8_add 12 = .ok (.iconst 1, 1) := by decide +kernel
theorem dX8_add_13 : decode cX8_add 13 = .ok (.putfield 28, 3) := by decide +kernel
theorem dX8_add_16 : decode cX8_add 16 = .ok (.return_, 1) := by decide +kernel
theorem dX8_add_17 : decode cX8_add 17 = .ok (.aload_n 0, 1) := by decide +kernel
theorem dX8_add_18 : decode cX8_add 18 = .ok (.dup, 1) := by decide +kernel
theorem dX8_add_19 : decode cX8_add 19 = .ok (.getfield 25, 3) := by decide +kernel
theorem dX8_add_22 : decode cX8_add 22 = .ok (.iconst 1, 1) := by decide +kernel
theorem dX8_add_23 : decode cX8_add 23 = .ok (.iadd, 1) := by decide +kernel
theorem dX8_add_24 : decode cX8_add 24 = .ok (.putfield 25, 3) := by decide +kernel
theorem dX8_add_27 : decode cX8_add 27 = .ok (.aload_n 0, 1) := by decide +kernel
theorem dX8_add_28 : decode cX8_add 28 = .ok (.aload_n 0, 1) := by decide +kernel
theorem dX8_add_29 : decode cX8_add 29 = .ok (.getfield 25, 3) := by decide +kernel
theorem dX8_add_32 : decode cX8_add 32 = .ok (.iconst 1, 1) := by decide +kernel
theorem dX8_add_33 : decode cX8_add 33 = .ok (.isub, 1) := by decide +kernel
theorem dX8_add_34 : decode cX8_add 34 = .ok (.iload_n 1, 1) := by decide +kernel
theorem dX8_add_35 : decode cX8_add 35 = .ok (.invokevirtual 32, 3) := by decide +kernel
theorem dX8_add_38 : decode cX8_add 38 = .ok (.pop, 1) := by decide +kernel
theorem dX8_add_39 : decode cX8_add 39 = .ok (.return_, 1) := by decide +kernel
set_option maxRecDepth 20000 in
theorem ggX8_addHighFirst_X8_add : GoodIn wsX8_addHighFirst wsX8_add := goodIn_r _ [5, 6, 7, 8, 9, 10, 11, 4, 12, 13, 14, 15, 16, 17] (by decide +kernel) (by decide +kernel)
set_option maxRecDepth 20000 in
theorem gX8_addHighFirst_X8_add : GoodIn wsX8_addHighFirst (wsV RX8 36 RX8 yX8_add wsX8_add) := goodIn_app (goodIn_of _ (by decide +kernel)) ggX8_addHighFirst_X8_add
theorem dX8_addHighFirst_0 : decode cX8_addHighFirst 0 = .ok (.iload_n 3, 1) := by decide +kernel
theorem dX8_addHighFirst_1 : decode cX8_addHighFirst 1 = .ok (.iconst 1, 1) := by decide +kernel
theorem dX8_addHighFirst_2 : decode cX8_addHighFirst 2 = .ok (.isub, 1) := by decide +kernel
theorem dX8_addHighFirst_3 : decode cX8_addHighFirst 3 = .ok (.istore 4, 2) := by decide +kernel
theorem dX8_addHighFirst_5 : decode cX8_addHighFirst 5 = .ok (.iload 4, 2) := by decide +kernel
theorem dX8_addHighFirst_7 : decode cX8_addHighFirst 7 = .ok (.ifCond .lt 21, 3) := by decide +kernel
theorem dX8_addHighFirst_10 : decode cX8_addHighFirst 10 = .ok (.aload_n 0, 1) := by decide +kernel
theorem dX8_addHighFirst_11 : decode cX8_addHighFirst 11 = .ok (.lload_n 1, 1) := by decide +kernel
theorem dX8_addHighFirst_12 : decode cX8_addHighFirst 12 = .ok (.bipush 8, 2) := by decide +kernel
theorem dX8_addHighFirst_14 : decode cX8_addHighFirst 14 = .ok (.iload 4, 2) := by decide +kernel
theorem dX8_addHighFirst_16 : decode cX8_addHighFirst 16 = .ok (.imul, 1) := by decide +kernel
theorem dX8_addHighFirst_17 : decode cX8_addHighFirst 17 = .ok (.lushr, 1) := by decide +kernel
theorem dX8_addHighFirst_18 : decode cX8_addHighFirst 18 = .ok (.l2i, 1) := by decide +kernel
theorem dX8_addHighFirst_19 : decode cX8_addHighFirst 19 = .ok (.invokevirtual 36, 3) := by decide +kernel
theorem dX8_addHighFirst_22 : decode cX8_addHighFirst 22 = .ok (.iinc 4 (-1), 3) := by decide +kernel
theorem dX8_addHighFirst_25 : decode cX8_addHighFirst 25 = .ok (.goto (-20), 3) := by decide +kernel
theorem dX8_addHighFirst_28 : decode cX8_addHighFirst 28 = .ok (.return_, 1) := by decide +kernel
set_option maxRecDepth 20000 in
theorem ggX8_addLowFirst_X8_add : GoodIn wsX8_addLowFirst wsX8_add := goodIn_r _ [5, 6, 7, 8, 9, 10, 11, 4, 12, 13, 14, 15, 16, 17] (by decide +kernel) (by decide +kernel)
set_option maxRecDepth 20000 in
theorem gX8_addLowFirst_X8_add : GoodIn wsX8_addLowFirst (wsV RX8 36 RX8 yX8_add wsX8_add) := goodIn_app (goodIn_of _ (by decide +kernel)) ggX8_addLowFirst_X8_add
theorem dX8_addLowFirst_0 : decode cX8_addLowFirst 0 = .ok (.iconst 0, 1) := by decide +kernel
theorem dX8_addLowFirst_1 : decode cX8_addLowFirst 1 = .ok (.istore 4, 2) := by decide +kernel
theorem dX8_addLowFirst_3 : decode cX8_addLowFirst 3 = .ok (.iload 4, 2) := by decide +kernel
theorem dX8_addLowFirst_5 : decode cX8_addLowFirst 5 = .ok (.iload_n 3, 1) := by decide +kernel
theorem dX8_addLowFirst_6 : decode cX8_addLowFirst 6 = .ok (.if_icmp .ge 21, 3) := by decide +kernel
theorem dX8_addLowFirst_9 : decode cX8_addLowFirst 9 = .ok (.aload_n 0, 1) := by decide +kernel
theorem dX8_addLowFirst_10 : decode cX8_addLowFirst 10 = .ok (.lload_n 1, 1) := by decide +kernel
theorem dX8_addLowFirst_11 : decode cX8_addLowFirst 11 = .ok (.bipush 8, 2) := by decide +kernel
theorem dX8_addLowFirst_13 : decode cX8_addLowFirst 13 = .ok (.iload 4, 2) := by decide +kernel
theorem dX8_addLowFirst_15 : decode cX8_addLowFirst 15 = .ok (.imul, 1) := by decide +kernel
theorem dX8_addLowFirst_16 : decode cX8_addLowFirst 16 = .ok (.lushr, 1) := by decide +kernel
theorem dX8_addLowFirst_17 : decode cX8_addLowFirst 17 = .ok (.l2i, 1) := by decide +kernel
theorem dX8_addLowFirst_18 : decode cX8_addLowFirst 18 = .ok (.invokevirtual 36, 3) := by decide +kernel
theorem dX8_addLowFirst_21 : decode cX8_addLowFirst 21 = .ok (.iinc 4 1, 3) := by decide +kernel
theorem dX8_addLowFirst_24 : decode cX8_addLowFirst 24 = .ok (.goto (-21), 3) := by decide +kernel
theorem dX8_addLowFirst_27 : decode cX8_addLowFirst 27 = .ok (.return_, 1) := by decide +kernel
set_option maxRecDepth 20000 in
theorem ggX8_addEach_X8_add : GoodIn wsX8_addEach wsX8_add := goodIn_r _ [5, 6, 7, 8, 9, 10, 11, 4, 12, 13, 14, 15, 16, 17] (by decide +kernel) (by decide +kernel)
set_option maxRecDepth 20000 in
theorem gX8_addEach_X8_add : GoodIn wsX8_addEach (wsV RX8 36 RX8 yX8_add wsX8_add) := goodIn_app (goodIn_of _ (by decide +kernel)) ggX8_addEach_X8_add
theorem dX8_addEach_0 : decode cX8_addEach 0 = .ok (.iconst 0, 1) := by decide +kernel
theorem dX8_addEach_1 : decode cX8_addEach 1 = .ok (.istore_n 2, 1) := by decide +kernel
theorem dX8_addEach_2 : decode cX8_addEach 2 = .ok (.iload_n 2, 1) := by decide +kernel
theorem dX8_addEach_3 : decode cX8_addEach 3 = .ok (.aload_n 1, 1) := by decide +kernel
theorem dX8_addEach_4 : decode cX8_addEach 4 = .ok (.arraylength, 1) := by decide +kernel
theorem dX8_addEach_5 : decode cX8_addEach 5 = .ok (.if_icmp .ge 16, 3) := by decide +kernel
theorem dX8_addEach_8 : decode cX8_addEach 8 = .ok (.aload_n 0, 1) := by decide +kernel
theorem dX8_addEach_9 : decode cX8_addEach 9 = .ok (.aload_n 1, 1) := by decide +kernel
theorem dX8_addEach_10 : decode cX8_addEach 10 = .ok (.iload_n 2, 1) := by decide +kernel
theorem dX8_addEach_11 : decode cX8_addEach 11 = .ok (.iaload, 1) := by decide +kernel
theorem dX8_addEach_12 : decode cX8_addEach 12 = .ok (.invokevirtual 36, 3) := by decide +kernel
