theorem dX8_addEach_15 : decode cX8_addEach 15 = .ok (.iinc 2 1, 3) := by decide +kernel
theorem dX8_addEach_18 : decode cX8_addEach 18 = .ok (.goto (-16), 3) := by decide +kernel
theorem dX8_addEach_21 : decode cX8_addEach 21 = .ok (.return_, 1) := by decide +kernel
set_option maxRecDepth 20000 in
theorem ggX8_addPart_X8_at : GoodIn wsX8_addPart wsX8_at := goodIn_r _ [5, 6, 7, 18, 19, 20, 21] (by decide +kernel) (by decide +kernel)
set_option maxRecDepth 20000 in
theorem gX8_addPart_X8_at : GoodIn wsX8_addPart (wsV RX8 40 RX8 yX8_at wsX8_at) := goodIn_app (goodIn_of _ (by decide +kernel)) ggX8_addPart_X8_at
set_option maxRecDepth 20000 in
theorem ggX8_addPart_X8_add : GoodIn wsX8_addPart wsX8_add := goodIn_r _ [11, 6, 12, 13, 14, 15, 16, 4, 17, 7, 18, 19, 20, 21] (by decide +kernel) (by decide +kernel)
set_option maxRecDepth 20000 in
theorem gX8_addPart_X8_add : GoodIn wsX8_addPart (wsV RX8 36 RX8 yX8_add wsX8_add) := goodIn_app (goodIn_of _ (by decide +kernel)) ggX8_addPart_X8_add
theorem dX8_addPart_0 : decode cX8_addPart 0 = .ok (.iconst 0, 1) := by decide +kernel
theorem dX8_addPart_1 : decode cX8_addPart 1 = .ok (.istore 4, 2) := by decide +kernel
theorem dX8_addPart_3 : decode cX8_addPart 3 = .ok (.iload 4, 2) := by decide +kernel
theorem dX8_addPart_5 : decode cX8_addPart 5 = .ok (.iload_n 3, 1) := by decide +kernel
theorem dX8_addPart_6 : decode cX8_addPart 6 = .ok (.if_icmp .ge 21, 3) := by decide +kernel
theorem dX8_addPart_9 : decode cX8_addPart 9 = .ok (.aload_n 0, 1) := by decide +kernel
theorem dX8_addPart_10 : decode cX8_addPart 10 = .ok (.aload_n 1, 1) := by decide +kernel
theorem dX8_addPart_11 : decode cX8_addPart 11 = .ok (.iload_n 2, 1) := by decide +kernel
theorem dX8_addPart_12 : decode cX8_addPart 12 = .ok (.iload 4, 2) := by decide +kernel
theorem dX8_addPart_14 : decode cX8_addPart 14 = .ok (.iadd, 1) := by decide +kernel
theorem dX8_addPart_15 : decode cX8_addPart 15 = .ok (.invokevirtual 40, 3) := by decide +kernel
theorem dX8_addPart_18 : decode cX8_addPart 18 = .ok (.invokevirtual 36, 3) := by decide +kernel
theorem dX8_addPart_21 : decode cX8_addPart 21 = .ok (.iinc 4 1, 3) := by decide +kernel
theorem dX8_addPart_24 : decode cX8_addPart 24 = .ok (.goto (-21), 3) := by decide +kernel
theorem dX8_addPart_27 : decode cX8_addPart 27 = .ok (.return_, 1) := by decide +kernel
theorem dX8_becomeLike_0 : decode cX8_becomeLike 0 = .ok (.aload_n 1, 1) := by decide +kernel
theorem dX8_becomeLike_1 : decode cX8_becomeLike 1 = .ok (.getfield 21, 3) := by decide +kernel
theorem dX8_becomeLike_4 : decode cX8_becomeLike 4 = .ok (.iconst 0, 1) := by decide +kernel
theorem dX8_becomeLike_5 : decode cX8_becomeLike 5 = .ok (.aload_n 0, 1) := by decide +kernel
theorem dX8_becomeLike_6 : decode cX8_becomeLike 6 = .ok (.getfield 21, 3) := by decide +kernel
theorem dX8_becomeLike_9 : decode cX8_becomeLike 9 = .ok (.iconst 0, 1) := by decide +kernel
theorem dX8_becomeLike_10 : decode cX8_becomeLike 10 = .ok (.aload_n 1, 1) := by decide +kernel
theorem dX8_becomeLike_11 : decode cX8_becomeLike 11 = .ok (.getfield 21, 3) := by decide +kernel
theorem dX8_becomeLike_14 : decode cX8_becomeLike 14 = .ok (.arraylength, 1) := by decide +kernel
theorem dX8_becomeLike_15 : decode cX8_becomeLike 15 = .ok (.aload_n 0, 1) := by decide +kernel
theorem dX8_becomeLike_16 : decode cX8_becomeLike 16 = .ok (.getfield 21, 3) := by decide +kernel
theorem dX8_becomeLike_19 : decode cX8_becomeLike 19 = .ok (.arraylength, 1) := by decide +kernel
theorem dX8_becomeLike_20 : decode cX8_becomeLike 20 = .ok (.invokestatic 44, 3) := by decide +kernel
theorem dX8_becomeLike_23 : decode cX8_becomeLike 23 = .ok (.invokestatic 47, 3) := by decide +kernel
theorem dX8_becomeLike_26 : decode cX8_becomeLike 26 = .ok (.aload_n 0, 1) := by decide +kernel
theorem dX8_becomeLike_27 : decode cX8_becomeLike 27 = .ok (.aload_n 1, 1) := by decide +kernel
theorem dX8_becomeLike_28 : decode cX8_becomeLike 28 = .ok (.getfield 25, 3) := by decide +kernel
theorem dX8_becomeLike_31 : decode cX8_becomeLike 31 = .ok (.aload_n 0, 1) := by decide +kernel
theorem dX8_becomeLike_32 : decode cX8_becomeLike 32 = .ok (.getfield 15, 3) := by decide +kernel
theorem dX8_becomeLike_35 : decode cX8_becomeLike 35 = .ok (.invokestatic 44, 3) := by decide +kernel
theorem dX8_becomeLike_38 : decode cX8_becomeLike 38 = .ok (.putfield 25, 3) := by decide +kernel
theorem dX8_becomeLike_41 : decode cX8_becomeLike 41 = .ok (.aload_n 0, 1) := by decide +kernel
theorem dX8_becomeLike_42 : decode cX8_becomeLike 42 = .ok (.aload_n 1, 1) := by decide +kernel
theorem dX8_becomeLike_43 : decode cX8_becomeLike 43 = .ok (.getfield 25, 3) := by decide +kernel
theorem dX8_becomeLike_46 : decode cX8_becomeLike 46 = .ok (.aload_n 0, 1) := by decide +kernel
theorem dX8_becomeLike_47 : decode cX8_becomeLike 47 = .ok (.getfield 15, 3) := by decide +kernel
theorem dX8_becomeLike_50 : decode cX8_becomeLike 50 = .ok (.if_icmp .le 7, 3) := by decide +kernel
theorem dX8_becomeLike_53 : decode cX8_becomeLike 53 = .ok (.iconst 1, 1) := by decide +kernel
theorem dX8_becomeLike_54 : decode cX8_becomeLike 54 = .ok (.goto 4, 3) := by decide +kernel
theorem dX8_becomeLike_57 : decode cX8_becomeLike 57 = .ok (.iconst 0, 1) := by decide +kernel
theorem dX8_becomeLike_58 : decode cX8_becomeLike 58 = .ok (.putfield 28, 3) := by decide +kernel
theorem dX8_becomeLike_61 : decode cX8_becomeLike 61 = .ok (.return_, 1) := by decide +kernel
set_option maxRecDepth 20000 in
theorem ggX8_highFirst_X8_at : GoodIn wsX8_highFirst wsX8_at := goodIn_r _ [5, 6, 7, 8, 9, 10, 11] (by decide +kernel) (by decide +kernel)
set_option maxRecDepth 20000 in
theorem gX8_highFirst_X8_at : GoodIn wsX8_highFirst (wsV RX8 40 RX8 yX8_at wsX8_at) := goodIn_app (goodIn_of _ (by decide +kernel)) ggX8_highFirst_X8_at
theorem dX8_highFirst_0 : decode cX8_highFirst 0 = .ok (.lconst 0, 1) := by decide +kernel
theorem dX8_highFirst_1 : decode cX8_highFirst 1 = .ok (.lstore_n 3, 1) := by decide +kernel
theorem dX8_highFirst_2 : decode cX8_highFirst 2 = .ok (.iconst 0, 1) := by decide +kernel
theorem dX8_highFirst_3 : decode cX8_highFirst 3 = .ok (.istore 5, 2) := by decide +kernel
theorem dX8_highFirst_5 : decode cX8_highFirst 5 = .ok (.iload 5, 2) := by decide +kernel
theorem dX8_highFirst_7 : decode cX8_highFirst 7 = .ok (.iload_n 2, 1) := by decide +kernel
theorem dX8_highFirst_8 : decode cX8_highFirst 8 = .ok (.if_icmp .ge 28, 3) := by decide +kernel
theorem dX8_highFirst_11 : decode cX8_highFirst 11 = .ok (.lload_n 3, 1) := by decide +kernel
theorem dX8_highFirst_12 : decode cX8_highFirst 12 = .ok (.bipush 8, 2) := by decide +kernel
theorem dX8_highFirst_14 : decode cX8_highFirst 14 = .ok (.lshl, 1) := by decide +kernel
theorem dX8_highFirst_15 : decode cX8_highFirst 15 = .ok (.aload_n 0, 1) := by decide +kernel
theorem dX8_highFirst_16 : decode cX8_highFirst 16 = .ok (.iload_n 1, 1) := by decide +kernel
theorem dX8_highFirst_17 : decode cX8_highFirst 17 = .ok (.iload 5, 2) := by decide +kernel
theorem dX8_highFirst_19 : decode cX8_highFirst 19 = .ok (.iadd, 1) := by decide +kernel
theorem dX8_highFirst_20 : decode cX8_highFirst 20 = .ok (.invokevirtual 40, 3) := by decide +kernel
theorem dX8_highFirst_23 : decode cX8_highFirst 23 = .ok (.sipush 255, 3) := by decide +kernel
theorem dX8_highFirst_26 : decode cX8_highFirst 26 = .ok (.iand, 1) := by decide +kernel
theorem dX8_highFirst_27 : decode cX8_highFirst 27 = .ok (.i2l, 1) := by decide +kernel
theorem dX8_highFirst_28 : decode cX8_highFirst 28 = .ok (.lor, 1) := by decide +kernel
theorem dX8_highFirst_29 : decode cX8_highFirst 29 = .ok (.lstore_n 3, 1) := by decide +kernel
theorem dX8_highFirst_30 : decode cX8_highFirst 30 = .ok (.iinc 5 1, 3) := by decide +kernel
theorem dX8_highFirst_33 : decode cX8_highFirst 33 = .ok (.goto (-28), 3) := by decide +kernel
theorem dX8_highFirst_36 : decode cX8_highFirst 36 = .ok (.lload_n 3, 1) := by decide +kernel
theorem dX8_highFirst_37 : decode cX8_highFirst 37 = .ok (.lreturn, 1) := by decide +kernel
set_option maxRecDepth 20000 in
theorem ggX8_lowFirst_X8_at : GoodIn wsX8_lowFirst wsX8_at := goodIn_r _ [5, 6, 7, 8, 9, 10, 11] (by decide +kernel) (by decide +kernel)
set_option maxRecDepth 20000 in
theorem gX8_lowFirst_X8_at : GoodIn wsX8_lowFirst (wsV RX8 40 RX8 yX8_at wsX8_at) := goodIn_app (goodIn_of _ (by decide +kernel)) ggX8_lowFirst_X8_at
theorem dX8_lowFirst_0 : decode cX8_lowFirst 0 = .ok (.lconst 0, 1) := by decide +kernel
theorem dX8_lowFirst_1 : decode cX8_lowFirst 1 = .ok (.lstore_n 3, 1) := by decide +kernel
theorem dX8_lowFirst_2 : decode cX8_lowFirst 2 = .ok (.iload_n 2, 1) := by decide +kernel
theorem dX8_lowFirst_3 : decode cX8_lowFirst 3 = .ok (.iconst 1, 1) := by decide +kernel
theorem dX8_lowFirst_4 : decode cX8_lowFirst 4 = .ok (.isub, 1) := by decide +kernel
theorem dX8_lowFirst_5 : decode cX8_lowFirst 5 = .ok (.istore 5, 2) := by decide +kernel
theorem dX8_lowFirst_7 : decode cX8_lowFirst 7 = .ok (.iload 5, 2) := by decide +kernel
theorem dX8_lowFirst_9 : decode cX8_lowFirst 9 = .ok (.ifCond .lt 28, 3) := by decide +kernel
theorem dX8_lowFirst_12 : decode cX8_lowFirst 12 = .ok (.lload_n 3, 1) := by decide +kernel
theorem dX8_lowFirst_13 : decode cX8_lowFirst 13 = .ok (.bipush 8, 2) := by decide +kernel
theorem dX8_lowFirst_15 : decode cX8_lowFirst 15 = .ok (.lshl, 1) := by decide +kernel
theorem dX8_lowFirst_16 : decode cX8_lowFirst 16 = .ok (.aload_n 0, 1) := by decide +kernel
theorem dX8_lowFirst_17 : decode cX8_lowFirst 17 = .ok (.iload_n 1, 1) := by decide +kernel
theorem dX8_lowFirst_18 : decode cX8_lowFirst 18 = .ok (.iload 5, 2) := by decide +kernel
theorem dX8_lowFirst_20 : decode cX8_lowFirst 20 = .ok (.iadd, 1) := by decide +kernel
theorem dX8_lowFirst_21 : decode cX8_lowFirst 21 = .ok (.invokevirtual 40, 3) := by decide +kernel
theorem dX8_lowFirst_24 : decode cX8_lowFirst 24 = .ok (.sipush 255, 3) := by decide +kernel
theorem dX8_lowFirst_27 : decode cX8_lowFirst 27 = .ok (.iand, 1) := by decide +kernel
theorem dX8_lowFirst_28 : decode cX8_lowFirst 28 = .ok (.i2l, 1) := by decide +kernel
theorem dX8_lowFirst_29 : decode cX8_lowFirst 29 = .ok (.lor, 1) := by decide +kernel
theorem dX8_lowFirst_30 : decode cX8_lowFirst 30 = .ok (.lstore_n 3, 1) := by decide +kernel
theorem dX8_lowFirst_31 : decode cX8_lowFirst 31 = .ok (.iinc 5 (-1), 3) := by decide +kernel
theorem dX8_lowFirst_34 : decode cX8_lowFirst 34 = .ok (.goto (-27), 3) := by decide +kernel
theorem dX8_lowFirst_37 : decode cX8_lowFirst 37 = .ok (.lload_n 3, 1) := by decide +kernel
theorem dX8_lowFirst_38 : decode cX8_lowFirst 38 = .ok (.lreturn, 1) := by decide +kernel
set_option maxRecDepth 20000 in
theorem ggX9_init_X8_init : GoodIn wsX9_init wsX8_init := goodIn_r _ [35, 36, 2, 3, 37, 38, 39, 40, 41, 42, 43, 78, 79, 80, 81] (by decide +kernel) (by decide +kernel)
set_option maxRecDepth 20000 in
theorem gX9_init_X8_init : GoodIn wsX9_init (wsX8_init) := ggX9_init_X8_init
set_option maxRecDepth 20000 in
theorem ggX9_init_X4_init : GoodIn wsX9_init wsX4_init := goodIn_r _ [45, 46, 2, 3, 47, 5, 6, 48, 42, 49, 50, 51, 52, 34, 35, 36, 37, 38, 39, 40, 41, 43, 78, 79, 80, 81, 96, 97, 98, 99] (by decide +kernel) (by decide +kernel)
set_option maxRecDepth 20000 in
theorem gX9_init_X4_init_n26 : GoodIn wsX9_init (wsX4_init) := ggX9_init_X4_init
set_option maxRecDepth 20000 in
theorem ggX9_init_X7_init : GoodIn wsX9_init wsX7_init := goodIn_r _ [54, 55, 2, 3, 42, 56, 100, 101, 102, 103, 104, 105, 106, 107, 108, 109] (by decide +kernel) (by decide +kernel)
set_option maxRecDepth 20000 in
theorem gX9_init_X7_init_n36 : GoodIn wsX9_init (wsX7_init) := ggX9_init_X7_init
set_option maxRecDepth 20000 in
theorem ggX9_init_X6_init : GoodIn wsX9_init wsX6_init := goodIn_r _ [58, 59, 2, 3] (by decide +kernel) (by decide +kernel)
set_option maxRecDepth 20000 in
theorem gX9_init_X6_init_n43 : GoodIn wsX9_init (wsX6_init) := ggX9_init_X6_init
set_option maxRecDepth 20000 in
theorem ggX9_init_X2_init : GoodIn wsX9_init wsX2_init := goodIn_r _ [61, 62, 2, 3, 63, 5, 6, 64, 65, 34, 35, 36, 37, 38, 39, 40, 41, 42, 43, 78, 79, 80, 81, 120, 121, 122, 123, 124, 125] (by decide +kernel) (by decide +kernel)
set_option maxRecDepth 20000 in
theorem gX9_init_X2_init_n50 : GoodIn wsX9_init (wsX2_init) := ggX9_init_X2_init
set_option maxRecDepth 20000 in
theorem ggX9_init_X1_init : GoodIn wsX9_init wsX1_init := goodIn_r _ [68, 69, 2, 3, 42, 70, 71, 72, 73, 74, 75, 76, 77, 126, 127, 128, 129, 130, 131, 132, 133, 134, 135, 136, 137, 138, 139, 140, 141, 142, 143] (by decide +kernel) (by decide +kernel)
set_option maxRecDepth 20000 in
theorem gX9_init_X1_init : GoodIn wsX9_init (wsX1_init) := ggX9_init_X1_init
theorem dX9_init_0 : decode cX9_init 0 = .ok (.aload_n 0, 1) := by decide +kernel
theorem dX9_init_1 : decode cX9_init 1 = .ok (.invokespecial 1, 3) := by decide +kernel
theorem dX9_init_4 : decode cX9_init 4 = .ok (.aload_n 0, 1) := by decide +kernel
theorem dX9_init_5 : decode cX9_init 5 = .ok (.new 7, 3) := by decide +kernel
theorem dX9_init_8 : decode cX9_init 8 = .ok (.dup, 1) := by decide +kernel
theorem dX9_init_9 : decode cX9_init 9 = .ok (.sipush 6000, 3) := by decide +kernel
theorem dX9_init_12 : decode cX9_init 12 = .ok (.invokespecial 11, 3) := by decide +kernel
theorem dX9_init_15 : decode cX9_init 15 = .ok (.putfield 14, 3) := by decide +kernel
theorem dX9_init_18 : decode cX9_init 18 = .ok (.aload_n 0, 1) := by decide +kernel
theorem dX9_init_19 : decode cX9_init 19 = .ok (.new 7, 3) := by decide +kernel
theorem dX9_init_22 : decode cX9_init 22 = .ok (.dup, 1) := by decide +kernel
theorem dX9_init_23 : decode cX9_init 23 = .ok (.sipush 6000, 3) := by decide +kernel
theorem dX9_init_26 : decode cX9_init 26 = .ok (.invokespecial 11, 3) := by decide +kernel
theorem dX9_init_29 : decode cX9_init 29 = .ok (.putfield 18, 3) := by decide +kernel
theorem dX9_init_32 : decode cX9_init 32 = .ok (.aload_n 0, 1) := by decide +kernel
theorem dX9_init_33 : decode cX9_init 33 = .ok (.new 7, 3) := by decide +kernel
theorem dX9_init_36 : decode cX9_init 36 = .ok (.dup, 1) := by decide +kernel
theorem dX9_init_37 : decode cX9_init 37 = .ok (.sipush 6000, 3) := by decide +kernel
theorem dX9_init_40 : decode cX9_init 40 = .ok (.invokespecial 11, 3) := by decide +kernel
theorem dX9_init_43 : decode cX9_init 43 = .ok (.putfield 21, 3) := by decide +kernel
theorem dX9_init_46 : decode cX9_init 46 = .ok (.aload_n 0, 1) := by decide +kernel
theorem dX9_init_47 : decode cX9_init 47 = .ok (.new 24, 3) := by decide +kernel
theorem dX9_init_50 : decode cX9_init 50 = .ok (.dup, 1) := by decide +kernel
theorem dX9_init_51 : decode cX9_init 51 = .ok (.invokespecial 26, 3) := by decide +kernel
theorem dX9_init_54 : decode cX9_init 54 = .ok (.putfield 27, 3) := by decide +kernel
theorem dX9_init_57 : decode cX9_init 57 = .ok (.aload_n 0, 1) := by decide +kernel
theorem dX9_init_58 : decode cX9_init 58 = .ok (.new 24, 3) := by decide +kernel
theorem dX9_init_61 : decode cX9_init 61 = .ok (.dup, 1) := by decide +kernel
theorem dX9_init_62 : decode cX9_init 62 = .ok (.invokespecial 26, 3) := by decide +kernel
theorem dX9_init_65 : decode cX9_init 65 = .ok (.putfield 31, 3) := by decide +kernel
theorem dX9_init_68 : decode cX9_init 68 = .ok (.aload_n 0, 1) := by decide +kernel
theorem dX9_init_69 : decode cX9_init 69 = .ok (.new 34, 3) := by decide +kernel
theorem dX9_init_72 : decode cX9_init 72 = .ok (.dup, 1) := by decide +kernel
theorem dX9_init_73 : decode cX9_init 73 = .ok (.invokespecial 36, 3) := by decide +kernel
theorem dX9_init_76 : decode cX9_init 76 = .ok (.putfield 37, 3) := by decide +kernel
theorem dX9_init_79 : decode cX9_init 79 = .ok (.aload_n 0, 1) := by decide +kernel
theorem dX9_init_80 : decode cX9_init 80 = .ok (.new 41, 3) := by decide +kernel
theorem dX9_init_83 : decode cX9_init 83 = .ok (.dup, 1) := by decide +kernel
theorem dX9_init_84 : decode cX9_init 84 = .ok (.invokespecial 43, 3) := by decide +kernel
theorem dX9_init_87 : decode cX9_init 87 = .ok (.putfield 44, 3) := by decide +kernel
theorem dX9_init_90 : decode cX9_init 90 = .ok (.aload_n 0, 1) := by decide +kernel
theorem dX9_init_91 : decode cX9_init 91 = .ok (.new 48, 3) := by decide +kernel
theorem dX9_init_94 : decode cX9_init 94 = .ok (.dup, 1) := by decide +kernel
theorem dX9_init_95 : decode cX9_init 95 = .ok (.invokespecial 50, 3) := by decide +kernel
theorem dX9_init_98 : decode cX9_init 98 = .ok (.putfield 51, 3) := by decide +kernel
theorem dX9_init_101 : decode cX9_init 101 = .ok (.aload_n 0, 1) := by decide +kernel
theorem dX9_init_102 : decode cX9_init 102 = .ok (.new 55, 3) := by decide +kernel
theorem dX9_init_105 : decode cX9_init 105 = .ok (.dup, 1) := by decide +kernel
theorem dX9_init_106 : decode cX9_init 106 = .ok (.invokespecial 57, 3) := by decide +kernel
theorem dX9_init_109 : decode cX9_init 109 = .ok (.putfield 58, 3) := by decide +kernel
theorem dX9_init_112 : decode cX9_init 112 = .ok (.aload_n 0, 1) := by decide +kernel
theorem dX9_init_113 : decode cX9_init 113 = .ok (.iconst 0, 1) := by decide +kernel
theorem dX9_init_114 : decode cX9_init 114 = .ok (.putfield 62, 3) := by decide +kernel
theorem dX9_init_117 : decode cX9_init 117 = .ok (.aload_n 0, 1) := by decide +kernel
theorem dX9_init_118 : decode cX9_init 118 = .ok (.iconst (-1), 1) := by decide +kernel
theorem dX9_init_119 : decode cX9_init 119 = .ok (.putfield 66, 3) := by decide +kernel
theorem dX9_init_122 : decode cX9_init 122 = .ok (.return_, 1) := by decide +kernel
set_option maxRecDepth 20000 in
theorem ggX9_feed_X8_addHighFirst : GoodIn wsX9_feed wsX8_addHighFirst := goodIn_r _ [7, 8, 9, 10, 6, 11, 12, 13, 14, 15, 16, 17, 18, 19, 34, 35, 36, 37] (by decide +kernel) (by decide +kernel)
set_option maxRecDepth 20000 in
theorem gX9_feed_X8_addHighFirst : GoodIn wsX9_feed (wsV RX9 72 RX8 yX8_addHighFirst wsX8_addHighFirst) := goodIn_app (goodIn_of _ (by decide +kernel)) ggX9_feed_X8_addHighFirst
theorem dX9_feed_0 : decode cX9_feed 0 = .ok (.aload_n 0, 1) := by decide +kernel
theorem dX9_feed_1 : decode cX9_feed 1 = .ok (.getfield 14, 3) := by decide +kernel
theorem dX9_feed_4 : decode cX9_feed 4 = .ok (.getfield 69, 3) := by decide +kernel
theorem dX9_feed_7 : decode cX9_feed 7 = .ok (.sipush 5980, 3) := by decide +kernel
theorem dX9_feed_10 : decode cX9_feed 10 = .ok (.if_icmp .le 5, 3) := by decide +kernel
theorem dX9_feed_13 : decode cX9_feed 13 = .ok (.iconst (-1), 1) := by decide +kernel
theorem dX9_feed_14 : decode cX9_feed 14 = .ok (.ireturn, 1) := by decide +kernel
theorem dX9_feed_15 : decode cX9_feed 15 = .ok (.aload_n 0, 1) := by decide +kernel
theorem dX9_feed_16 : decode cX9_feed 16 = .ok (.getfield 14, 3) := by decide +kernel
theorem dX9_feed_19 : decode cX9_feed 19 = .ok (.iload_n 1, 1) := by decide +kernel
theorem dX9_feed_20 : decode cX9_feed 20 = .ok (.i2l, 1) := by decide +kernel
theorem dX9_feed_21 : decode cX9_feed 21 = .ok (.iconst 4, 1) := by decide +kernel
theorem dX9_feed_22 : decode cX9_feed 22 = .ok (.invokevirtual 72, 3) := by decide +kernel
theorem dX9_feed_25 : decode cX9_feed 25 = .ok (.aload_n 0, 1) := by decide +kernel
theorem dX9_feed_26 : decode cX9_feed 26 = .ok (.getfield 14, 3) := by decide +kernel
theorem dX9_feed_29 : decode cX9_feed 29 = .ok (.iload_n 2, 1) := by decide +kernel
theorem dX9_feed_30 : decode cX9_feed 30 = .ok (.i2l, 1) := by decide +kernel
theorem dX9_feed_31 : decode cX9_feed 31 = .ok (.iconst 4, 1) := by decide +kernel
theorem dX9_feed_32 : decode cX9_feed 32 = .ok (.invokevirtual 72, 3) := by decide +kernel
theorem dX9_feed_35 : decode cX9_feed 35 = .ok (.aload_n 0, 1) := by decide +kernel
theorem dX9_feed_36 : decode cX9_feed 36 = .ok (.getfield 14, 3) := by decide +kernel
theorem dX9_feed_39 : decode cX9_feed 39 = .ok (.iload_n 3, 1) := by decide +kernel
theorem dX9_feed_40 : decode cX9_feed 40 = .ok (.i2l, 1) := by decide +kernel
theorem dX9_feed_41 : decode cX9_feed 41 = .ok (.iconst 4, 1) := by decide +kernel
theorem dX9_feed_42 : decode cX9_feed 42 = .ok (.invokevirtual 72, 3) := by decide +kernel
theorem dX9_feed_45 : decode cX9_feed 45 = .ok (.aload_n 0, 1) := by decide +kernel
theorem dX9_feed_46 : decode cX9_feed 46 = .ok (.getfield 14, 3) := by decide +kernel
theorem dX9_feed_49 : decode cX9_feed 49 = .ok (.iload 4, 2) := by decide +kernel
theorem dX9_feed_51 : decode cX9_feed 51 = .ok (.i2l, 1) := by decide +kernel
theorem dX9_feed_52 : decode cX9_feed 52 = .ok (.iconst 4, 1) := by decide +kernel
theorem dX9_feed_53 : decode cX9_feed 53 = .ok (.invokevirtual 72, 3) := by decide +kernel
theorem dX9_feed_56 : decode cX9_feed 56 = .ok (.aload_n 0, 1) := by decide +kernel
theorem dX9_feed_57 : decode cX9_feed 57 = .ok (.getfield 14, 3) := by decide +kernel
theorem dX9_feed_60 : decode cX9_feed 60 = .ok (.iload 5, 2) := by decide +kernel
theorem dX9_feed_62 : decode cX9_feed 62 = .ok (.i2l, 1) := by decide +kernel
theorem dX9_feed_63 : decode cX9_feed 63 = .ok (.iconst 4, 1) := by decide +kernel
theorem dX9_feed_64 : decode cX9_feed 64 = .ok (.invokevirtual 72, 3) := by decide +kernel
theorem dX9_feed_67 : decode cX9_feed 67 = .ok (.aload_n 0, 1) := by decide +kernel
theorem dX9_feed_68 : decode cX9_feed 68 = .ok (.getfield 14, 3) := by decide +kernel
theorem dX9_feed_71 : decode cX9_feed 71 = .ok (.getfield 69, 3) := by decide +kernel
theorem dX9_feed_74 : decode cX9_feed 74 = .ok (.ireturn, 1) := by decide +kernel
set_option maxRecDepth 20000 in
theorem ggX9_packet_X9_isOnTape : GoodIn wsX9_packet wsX9_isOnTape := goodIn_r _ [11, 5, 12, 52, 53, 54, 55, 56, 57, 58, 59, 60, 61, 62, 63, 64, 65, 70, 71, 72, 73] (by decide +kernel) (by decide +kernel)
set_option maxRecDepth 20000 in
theorem gX9_packet_X9_isOnTape : GoodIn wsX9_packet (wsV RX9 76 RX9 yX9_isOnTape wsX9_isOnTape) := goodIn_app (goodIn_of _ (by decide +kernel)) ggX9_packet_X9_isOnTape
set_option maxRecDepth 20000 in
theorem ggX9_packet_X4_hasRoom : GoodIn wsX9_packet wsX4_hasRoom := goodIn_r _ [17, 18, 19, 20, 66, 67, 68, 69, 70, 71, 72, 73] (by decide +kernel) (by decide +kernel)
set_option maxRecDepth 20000 in
theorem gX9_packet_X4_hasRoom : GoodIn wsX9_packet (wsV RX9 84 RX4 yX4_hasRoom wsX4_hasRoom) := goodIn_app (goodIn_of _ (by decide +kernel)) ggX9_packet_X4_hasRoom
set_option maxRecDepth 20000 in
theorem ggX9_packet_X8_addPart : GoodIn wsX9_packet wsX8_addPart := goodIn_r _ [25, 26, 27, 28, 24, 29, 30, 31, 32, 33, 34, 35, 36, 37, 38, 39, 40, 41, 70, 71, 72, 73] (by decide +kernel) (by decide +kernel)
set_option maxRecDepth 20000 in
theorem gX9_packet_X8_addPart : GoodIn wsX9_packet (wsV RX9 91 RX8 yX8_addPart wsX8_addPart) := goodIn_app (goodIn_of _ (by decide +kernel)) ggX9_packet_X8_addPart
set_option maxRecDepth 20000 in
theorem ggX9_packet_X4_endPacket : GoodIn wsX9_packet wsX4_endPacket := goodIn_r _ [45, 18, 46, 19, 20, 47, 66, 67, 68, 69, 70, 71, 72, 73] (by decide +kernel) (by decide +kernel)
set_option maxRecDepth 20000 in
theorem gX9_packet_X4_endPacket : GoodIn wsX9_packet (wsV RX9 95 RX4 yX4_endPacket wsX4_endPacket) := goodIn_app (goodIn_of _ (by decide +kernel)) ggX9_packet_X4_endPacket
set_option maxRecDepth 20000 in
theorem ggX9_packet_X8_empty : GoodIn wsX9_packet wsX8_empty := goodIn_r _ [51, 30, 37, 70, 71, 72, 73] (by decide +kernel) (by decide +kernel)
set_option maxRecDepth 20000 in
theorem gX9_packet_X8_empty : GoodIn wsX9_packet (wsV RX9 99 RX8 yX8_empty wsX8_empty) := goodIn_app (goodIn_of _ (by decide +kernel)) ggX9_packet_X8_empty
theorem dX9_packet_0 : decode cX9_packet 0 = .ok (.aload_n 0, 1) := by decide +kernel
theorem dX9_packet_1 : decode cX9_packet 1 = .ok (.iload_n 1, 1) := by decide +kernel
theorem dX9_packet_2 : decode cX9_packet 2 = .ok (.invokevirtual 76, 3) := by decide +kernel
theorem dX9_packet_5 : decode cX9_packet 5 = .ok (.ifCond .eq 19, 3) := by decide +kernel
theorem dX9_packet_8 : decode cX9_packet 8 = .ok (.lload_n 2, 1) := by decide +kernel
theorem dX9_packet_9 : decode cX9_packet 9 = .ok (.ldc2_w 80, 3) := by decide +kernel
theorem dX9_packet_12 : decode cX9_packet 12 = .ok (.lcmp, 1) := by decide +kernel
theorem dX9_packet_13 : decode cX9_packet 13 = .ok (.ifCond .lt 11, 3) := by decide +kernel
theorem dX9_packet_16 : decode cX9_packet 16 = .ok (.lload_n 2, 1) := by decide +kernel
theorem dX9_packet_17 : decode cX9_packet 17 = .ok (.ldc2_w 82, 3) := by decide +kernel
theorem dX9_packet_20 : decode cX9_packet 20 = .ok (.lcmp, 1) := by decide +kernel
theorem dX9_packet_21 : decode cX9_packet 21 = .ok (.ifCond .le 6, 3) := by decide +kernel
theorem dX9_packet_24 : decode cX9_packet 24 = .ok (.bipush (-2), 2) := by decide +kernel
theorem dX9_packet_26 : decode cX9_packet 26 = .ok (.ireturn, 1) := by decide +kernel
theorem dX9_packet_27 : decode cX9_packet 27 = .ok (.aload_n 0, 1) := by decide +kernel
theorem dX9_packet_28 : decode cX9_packet 28 = .ok (.getfield 27, 3) := by decide +kernel
theorem dX9_packet_31 : decode cX9_packet 31 = .ok (.iconst 1, 1) := by decide +kernel
theorem dX9_packet_32 : decode cX9_packet 32 = .ok (.iload_n 1, 1) := by decide +kernel
theorem dX9_packet_33 : decode cX9_packet 33 = .ok (.invokevirtual 84, 3) := by decide +kernel
theorem dX9_packet_36 : decode cX9_packet 36 = .ok (.istore 4, 2) := by decide +kernel
theorem dX9_packet_38 : decode cX9_packet 38 = .ok (.iload 4, 2) := by decide +kernel
theorem dX9_packet_40 : decode cX9_packet 40 = .ok (.ifCond .eq 27, 3) := by decide +kernel
theorem dX9_packet_43 : decode cX9_packet 43 = .ok (.aload_n 0, 1) := by decide +kernel
theorem dX9_packet_44 : decode cX9_packet 44 = .ok (.getfield 27, 3) := by decide +kernel
theorem dX9_packet_47 : decode cX9_packet 47 = .ok (.getfield 88, 3) := by decide +kernel
theorem dX9_packet_50 : decode cX9_packet 50 = .ok (.aload_n 0, 1) := by decide +kernel
theorem dX9_packet_51 : decode cX9_packet 51 = .ok (.getfield 14, 3) := by decide +kernel
theorem dX9_packet_54 : decode cX9_packet 54 = .ok (.iconst 0, 1) := by decide +kernel
theorem dX9_packet_55 : decode cX9_packet 55 = .ok (.iload_n 1, 1) := by decide +kernel
theorem dX9_packet_56 : decode cX9_packet 56 = .ok (.invokevirtual 91, 3) := by decide +kernel
theorem dX9_packet_59 : decode cX9_packet 59 = .ok (.aload_n 0, 1) := by decide +kernel
theorem dX9_packet_60 : decode cX9_packet 60 = .ok (.getfield 27, 3) := by decide +kernel
theorem dX9_packet_63 : decode cX9_packet 63 = .ok (.lload_n 2, 1) := by decide +kernel
theorem dX9_packet_64 : decode cX9_packet 64 = .ok (.invokevirtual 95, 3) := by decide +kernel
theorem dX9_packet_67 : decode cX9_packet 67 = .ok (.aload_n 0, 1) := by decide +kernel
theorem dX9_packet_68 : decode cX9_packet 68 = .ok (.getfield 14, 3) := by decide +kernel
theorem dX9_packet_71 : decode cX9_packet 71 = .ok (.invokevirtual 99, 3) := by decide +kernel
theorem dX9_packet_74 : decode cX9_packet 74 = .ok (.iload 4, 2) := by decide +kernel
theorem dX9_packet_76 : decode cX9_packet 76 = .ok (.ifCond .eq 13, 3) := by decide +kernel
theorem dX9_packet_79 : decode cX9_packet 79 = .ok (.aload_n 0, 1) := by decide +kernel
theorem dX9_packet_80 : decode cX9_packet 80 = .ok (.getfield 27, 3) := by decide +kernel
theorem dX9_packet_83 : decode cX9_packet 83 = .ok (.getfield 102, 3) := by decide +kernel
theorem dX9_packet_86 : decode cX9_packet 86 = .ok (.goto 4, 3) := by decide +kernel
theorem dX9_packet_89 : decode cX9_packet 89 = .ok (.iconst (-1), 1) := by decide +kernel
theorem dX9_packet_90 : decode cX9_packet 90 = .ok (.ireturn, 1) := by decide +kernel
set_option maxRecDepth 20000 in
theorem ggX9_clear_X4_empty : GoodIn wsX9_clear wsX4_empty := goodIn_r _ [7, 8, 9, 10, 11, 12, 13, 14, 15, 16, 31, 32, 33, 34, 35, 36, 37, 38] (by decide +kernel) (by decide +kernel)
set_option maxRecDepth 20000 in
theorem gX9_clear_X4_empty : GoodIn wsX9_clear (wsV RX9 105 RX4 yX4_empty wsX4_empty) := goodIn_app (goodIn_of _ (by decide +kernel)) ggX9_clear_X4_empty
theorem dX9_clear_0 : decode cX9_clear 0 = .ok (.aload_n 0, 1) := by decide +kernel
theorem dX9_clear_1 : decode cX9_clear 1 = .ok (.getfield 27, 3) := by decide +kernel
theorem dX9_clear_4 : decode cX9_clear 4 = .ok (.getfield 102, 3) := by decide +kernel
theorem dX9_clear_7 : decode cX9_clear 7 = .ok (.istore_n 1, 1) := by decide +kernel
theorem dX9_clear_8 : decode cX9_clear 8 = .ok (.aload_n 0, 1) := by decide +kernel
theorem dX9_clear_9 : decode cX9_clear 9 = .ok (.getfield 27, 3) := by decide +kernel
theorem dX9_clear_12 : decode cX9_clear 12 = .ok (.invokevirtual 105, 3) := by decide +kernel
theorem dX9_clear_15 : decode cX9_clear 15 = .ok (.iload_n 1, 1) := by decide +kernel
theorem dX9_clear_16 : decode cX9_clear 16 = .ok (.ireturn, 1) := by decide +kernel
set_option maxRecDepth 20000 in
theorem ggX9_pages_X4_isInOrderOfTime : GoodIn wsX9_pages wsX4_isInOrderOfTime := goodIn_r _ [9, 10, 11, 12, 13, 14, 15, 16, 17, 18, 8, 19, 20, 21, 22, 23, 24, 140, 141, 142, 143] (by decide +kernel) (by decide +kernel)
set_option maxRecDepth 20000 in
theorem gX9_pages_X4_isInOrderOfTime : GoodIn wsX9_pages (wsV RX9 108 RX4 yX4_isInOrderOfTime wsX4_isInOrderOfTime) := goodIn_app (goodIn_of _ (by decide +kernel)) ggX9_pages_X4_isInOrderOfTime
set_option maxRecDepth 20000 in
theorem ggX9_pages_X8_empty : GoodIn wsX9_pages wsX8_empty := goodIn_r _ [29, 30, 31, 144, 145, 146, 147] (by decide +kernel) (by decide +kernel)
set_option maxRecDepth 20000 in
theorem gX9_pages_X8_empty : GoodIn wsX9_pages (wsV RX9 99 RX8 yX8_empty wsX8_empty) := goodIn_app (goodIn_of _ (by decide +kernel)) ggX9_pages_X8_empty
set_option maxRecDepth 20000 in
theorem ggX9_pages_X7_write : GoodIn wsX9_pages wsX7_write := goodIn_r _ [36, 37, 38, 39, 40, 41, 42, 43, 44, 45, 46, 47, 48, 49, 35, 50, 51, 52, 53, 8, 54, 55, 21, 22, 23, 24, 11, 56, 57, 58, 59, 60, 61, 62, 63, 64, 65, 66, 67, 68, 69, 70, 71, 72, 73, 74, 75, 76, 77, 78, 79, 28, 80, 81, 82, 83, 84, 30, 85, 31, 86, 87, 88, 89, 90, 91, 92, 93, 94, 95, 10, 16, 17, 18, 19, 20, 96, 97, 98, 99, 100, 101, 102, 103, 104, 105, 106, 107, 108, 109, 110, 111, 112, 113, 114, 115, 116, 117, 148, 149, 150, 151, 152, 153, 154, 155, 156, 157, 140, 141, 142, 143, 144, 145, 146, 147] (by decide +kernel) (by decide +kernel)
set_option maxRecDepth 20000 in
theorem gX9_pages_X7_write : GoodIn wsX9_pages (wsV RX9 112 RX7 yX7_write wsX7_write) := goodIn_app (goodIn_of _ (by decide +kernel)) ggX9_pages_X7_write
set_option maxRecDepth 20000 in
theorem ggX9_pages_X9_takeSpareRow : GoodIn wsX9_pages wsX9_takeSpareRow := goodIn_r _ [122, 3, 123, 124, 125, 126, 127, 128, 129, 130, 131, 132, 133, 134, 135, 136, 137, 138, 139, 144, 145, 146, 147] (by decide +kernel) (by decide +kernel)
set_option maxRecDepth 20000 in
theorem gX9_pages_X9_takeSpareRow : GoodIn wsX9_pages (wsV RX9 116 RX9 yX9_takeSpareRow wsX9_takeSpareRow) := goodIn_app (goodIn_of _ (by decide +kernel)) ggX9_pages_X9_takeSpareRow
theorem dX9_pages_0 : decode cX9_pages 0 = .ok (.iload_n 2, 1) := by decide +kernel
theorem dX9_pages_1 : decode cX9_pages 1 = .ok (.iconst 1, 1) := by decide +kernel
theorem dX9_pages_2 : decode cX9_pages 2 = .ok (.if_icmp .lt 21, 3) := by decide +kernel
theorem dX9_pages_5 : decode cX9_pages 5 = .ok (.iload_n 2, 1) := by decide +kernel
theorem dX9_pages_6 : decode cX9_pages 6 = .ok (.bipush 20, 2) := by decide +kernel
theorem dX9_pages_8 : decode cX9_pages 8 = .ok (.if_icmp .gt 15, 3) := by decide +kernel
theorem dX9_pages_11 : decode cX9_pages 11 = .ok (.iload_n 3, 1) := by decide +kernel
theorem dX9_pages_12 : decode cX9_pages 12 = .ok (.iconst 1, 1) := by decide +kernel
theorem dX9_pages_13 : decode cX9_pages 13 = .ok (.if_icmp .lt 10, 3) := by decide +kernel
theorem dX9_pages_16 : decode cX9_pages 16 = .ok (.iload_n 3, 1) := by decide +kernel
theorem dX9_pages_17 : decode cX9_pages 17 = .ok (.sipush 255, 3) := by decide +kernel
theorem dX9_pages_20 : decode cX9_pages 20 = .ok (.if_icmp .le 6, 3) := by decide +kernel
theorem dX9_pages_23 : decode cX9_pages 23 = .ok (.bipush (-2), 2) := by decide +kernel
theorem dX9_pages_25 : decode cX9_pages 25 = .ok (.ireturn, 1) := by decide +kernel
theorem dX9_pages_26 : decode cX9_pages 26 = .ok (.aload_n 0, 1) := by decide +kernel
theorem dX9_pages_27 : decode cX9_pages 27 = .ok (.getfield 27, 3) := by decide +kernel
theorem dX9_pages_30 : decode cX9_pages 30 = .ok (.getfield 102, 3) := by decide +kernel
theorem dX9_pages_33 : decode cX9_pages 33 = .ok (.ifCond .eq 13, 3) := by decide +kernel
theorem dX9_pages_36 : decode cX9_pages 36 = .ok (.aload_n 0, 1) := by decide +kernel
theorem dX9_pages_37 : decode cX9_pages 37 = .ok (.getfield 27, 3) := by decide +kernel
theorem dX9_pages_40 : decode cX9_pages 40 = .ok (.invokevirtual 108, 3) := by decide +kernel
theorem dX9_pages_43 : decode cX9_pages 43 = .ok (.ifCond .ne 5, 3) := by decide +kernel
theorem dX9_pages_46 : decode cX9_pages 46 = .ok (.iconst (-1), 1) := by decide +kernel
theorem dX9_pages_47 : decode cX9_pages 47 = .ok (.ireturn, 1) := by decide +kernel
theorem dX9_pages_48 : decode cX9_pages 48 = .ok (.aload_n 0, 1) := by decide +kernel
theorem dX9_pages_49 : decode cX9_pages 49 = .ok (.getfield 21, 3) := by decide +kernel
theorem dX9_pages_52 : decode cX9_pages 52 = .ok (.invokevirtual 99, 3) := by decide +kernel
theorem dX9_pages_55 : decode cX9_pages 55 = .ok (.aload_n 0, 1) := by decide +kernel
theorem dX9_pages_56 : decode cX9_pages 56 = .ok (.getfield 37, 3) := by decide +kernel
theorem dX9_pages_59 : decode cX9_pages 59 = .ok (.aload_n 0, 1) := by decide +kernel
theorem dX9_pages_60 : decode cX9_pages 60 = .ok (.getfield 27, 3) := by decide +kernel
theorem dX9_pages_63 : decode cX9_pages 63 = .ok (.aload_n 0, 1) := by decide +kernel
theorem dX9_pages_64 : decode cX9_pages 64 = .ok (.getfield 21, 3) := by decide +kernel
theorem dX9_pages_67 : decode cX9_pages 67 = .ok (.iload_n 1, 1) := by decide +kernel
theorem dX9_pages_68 : decode cX9_pages 68 = .ok (.iload_n 2, 1) := by decide +kernel
theorem dX9_pages_69 : decode cX9_pages 69 = .ok (.iload_n 3, 1) := by decide +kernel
theorem dX9_pages_70 : decode cX9_pages 70 = .ok (.invokevirtual 112, 3) := by decide +kernel
theorem dX9_pages_73 : decode cX9_pages 73 = .ok (.aload_n 0, 1) := by decide +kernel
theorem dX9_pages_74 : decode cX9_pages 74 = .ok (.invokevirtual 116, 3) := by decide +kernel
theorem dX9_pages_77 : decode cX9_pages 77 = .ok (.ireturn, 1) := by decide +kernel
set_option maxRecDepth 20000 in
theorem ggX9_elements_X8_empty : GoodIn wsX9_elements wsX8_empty := goodIn_r _ [8, 9, 10, 161, 162, 163, 164] (by decide +kernel) (by decide +kernel)
set_option maxRecDepth 20000 in
theorem gX9_elements_X8_empty : GoodIn wsX9_elements (wsV RX9 99 RX8 yX8_empty wsX8_empty) := goodIn_app (goodIn_of _ (by decide +kernel)) ggX9_elements_X8_empty
set_option maxRecDepth 20000 in
theorem ggX9_elements_X2_write : GoodIn wsX9_elements wsX2_write := goodIn_r _ [15, 16, 17, 18, 19, 20, 21, 22, 23, 24, 25, 26, 27, 28, 7, 29, 30, 31, 32, 33, 9, 34, 10, 35, 36, 37, 38, 39, 40, 41, 42, 14, 43, 44, 45, 46, 47, 48, 49, 50, 51, 52, 53, 54, 55, 56, 57, 58, 59, 60, 61, 62, 63, 64, 65, 66, 67, 68, 69, 70, 71, 72, 73, 74, 75, 76, 77, 78, 79, 80, 81, 82, 83, 84, 85, 86, 87, 88, 89, 90, 91, 92, 93, 94, 95, 96, 97, 98, 99, 100, 101, 102, 103, 104, 105, 106, 107, 108, 109, 110, 111, 112, 113, 114, 5, 6, 8, 115, 116, 117, 118, 119, 120, 121, 122, 123, 124, 125, 126, 127, 128, 129, 130, 131, 132, 133, 134, 135, 136, 137, 138, 165, 166, 167, 168, 169, 170, 161, 162, 163, 164, 171, 172, 173, 174] (by decide +kernel) (by decide +kernel)
set_option maxRecDepth 20000 in
theorem gX9_elements_X2_write : GoodIn wsX9_elements (wsV RX9 120 RX2 yX2_write wsX2_write) := goodIn_app (goodIn_of _ (by decide +kernel)) ggX9_elements_X2_write
set_option maxRecDepth 20000 in
theorem ggX9_elements_X9_takeSpareRow : GoodIn wsX9_elements wsX9_takeSpareRow := goodIn_r _ [143, 1, 144, 145, 146, 147, 148, 149, 150, 151, 152, 153, 154, 155, 156, 157, 158, 159, 160, 161, 162, 163, 164] (by decide +kernel) (by decide +kernel)
set_option maxRecDepth 20000 in
theorem gX9_elements_X9_takeSpareRow : GoodIn wsX9_elements (wsV RX9 116 RX9 yX9_takeSpareRow wsX9_takeSpareRow) := goodIn_app (goodIn_of _ (by decide +kernel)) ggX9_elements_X9_takeSpareRow
theorem dX9_elements_0 : decode cX9_elements 0 = .ok (.iload_n 1, 1) := by decide +kernel
theorem dX9_elements_1 : decode cX9_elements 1 = .ok (.ifCond .lt 30, 3) := by decide +kernel
theorem dX9_elements_4 : decode cX9_elements 4 = .ok (.iload_n 1, 1) := by decide +kernel
theorem dX9_elements_5 : decode cX9_elements 5 = .ok (.iconst 3, 1) := by decide +kernel
theorem dX9_elements_6 : decode cX9_elements 6 = .ok (.if_icmp .gt 25, 3) := by decide +kernel
theorem dX9_elements_9 : decode cX9_elements 9 = .ok (.iload_n 2, 1) := by decide +kernel
theorem dX9_elements_10 : decode cX9_elements 10 = .ok (.iconst 1, 1) := by decide +kernel
theorem dX9_elements_11 : decode cX9_elements 11 = .ok (.if_icmp .lt 20, 3) := by decide +kernel
theorem dX9_elements_14 : decode cX9_elements 14 = .ok (.iload_n 2, 1) := by decide +kernel
theorem dX9_elements_15 : decode cX9_elements 15 = .ok (.bipush 8, 2) := by decide +kernel
theorem dX9_elements_17 : decode cX9_elements 17 = .ok (.if_icmp .gt 14, 3) := by decide +kernel
theorem dX9_elements_20 : decode cX9_elements 20 = .ok (.iload_n 3, 1) := by decide +kernel
theorem dX9_elements_21 : decode cX9_elements 21 = .ok (.iconst 1, 1) := by decide +kernel
theorem dX9_elements_22 : decode cX9_elements 22 = .ok (.if_icmp .lt 9, 3) := by decide +kernel
theorem dX9_elements_25 : decode cX9_elements 25 = .ok (.iload_n 3, 1) := by decide +kernel
theorem dX9_elements_26 : decode cX9_elements 26 = .ok (.bipush 20, 2) := by decide +kernel
theorem dX9_elements_28 : decode cX9_elements 28 = .ok (.if_icmp .le 6, 3) := by decide +kernel
theorem dX9_elements_31 : decode cX9_elements 31 = .ok (.bipush (-2), 2) := by decide +kernel
theorem dX9_elements_33 : decode cX9_elements 33 = .ok (.ireturn, 1) := by decide +kernel
theorem dX9_elements_34 : decode cX9_elements 34 = .ok (.aload_n 0, 1) := by decide +kernel
theorem dX9_elements_35 : decode cX9_elements 35 = .ok (.getfield 21, 3) := by decide +kernel
theorem dX9_elements_38 : decode cX9_elements 38 = .ok (.invokevirtual 99, 3) := by decide +kernel
theorem dX9_elements_41 : decode cX9_elements 41 = .ok (.aload_n 0, 1) := by decide +kernel
theorem dX9_elements_42 : decode cX9_elements 42 = .ok (.getfield 51, 3) := by decide +kernel
theorem dX9_elements_45 : decode cX9_elements 45 = .ok (.aload_n 0, 1) := by decide +kernel
theorem dX9_elements_46 : decode cX9_elements 46 = .ok (.getfield 27, 3) := by decide +kernel
theorem dX9_elements_49 : decode cX9_elements 49 = .ok (.aload_n 0, 1) := by decide +kernel
theorem dX9_elements_50 : decode cX9_elements 50 = .ok (.getfield 21, 3) := by decide +kernel
theorem dX9_elements_53 : decode cX9_elements 53 = .ok (.iload_n 1, 1) := by decide +kernel
theorem dX9_elements_54 : decode cX9_elements 54 = .ok (.iload_n 1, 1) := by decide +kernel
theorem dX9_elements_55 : decode cX9_elements 55 = .ok (.ifCond .ne 7, 3) := by decide +kernel
theorem dX9_elements_58 : decode cX9_elements 58 = .ok (.iconst 1, 1) := by decide +kernel
theorem dX9_elements_59 : decode cX9_elements 59 = .ok (.goto 4, 3) := by decide +kernel
theorem dX9_elements_62 : decode cX9_elements 62 = .ok (.iload_n 2, 1) := by decide +kernel
theorem dX9_elements_63 : decode cX9_elements 63 = .ok (.iload_n 3, 1) := by decide +kernel
theorem dX9_elements_64 : decode cX9_elements 64 = .ok (.iload 4, 2) := by decide +kernel
theorem dX9_elements_66 : decode cX9_elements 66 = .ok (.invokevirtual 120, 3) := by decide +kernel
theorem dX9_elements_69 : decode cX9_elements 69 = .ok (.aload_n 0, 1) := by decide +kernel
theorem dX9_elements_70 : decode cX9_elements 70 = .ok (.invokevirtual 116, 3) := by decide +kernel
theorem dX9_elements_73 : decode cX9_elements 73 = .ok (.ireturn, 1) := by decide +kernel
set_option maxRecDepth 20000 in
theorem ggX9_readPages_X9_isOnTape : GoodIn wsX9_readPages wsX9_isOnTape := goodIn_r _ [14, 3, 15, 134, 135, 136, 137, 138, 139, 140, 141, 142, 143, 144, 145, 146, 147, 158, 159, 160, 161] (by decide +kernel) (by decide +kernel)
set_option maxRecDepth 20000 in
theorem gX9_readPages_X9_isOnTape : GoodIn wsX9_readPages (wsV RX9 76 RX9 yX9_isOnTape wsX9_isOnTape) := goodIn_app (goodIn_of _ (by decide +kernel)) ggX9_readPages_X9_isOnTape
set_option maxRecDepth 20000 in
theorem ggX9_readPages_X4_empty : GoodIn wsX9_readPages wsX4_empty := goodIn_r _ [20, 21, 22, 23, 24, 25, 26, 27, 28, 29, 162, 163, 164, 165, 158, 159, 160, 161] (by decide +kernel) (by decide +kernel)
set_option maxRecDepth 20000 in
theorem gX9_readPages_X4_empty : GoodIn wsX9_readPages (wsV RX9 105 RX4 yX4_empty wsX4_empty) := goodIn_app (goodIn_of _ (by decide +kernel)) ggX9_readPages_X4_empty
set_option maxRecDepth 20000 in
theorem ggX9_readPages_X6_read : GoodIn wsX9_readPages wsX6_read := goodIn_r _ [34, 35, 36, 37, 38, 39, 40, 41, 42, 43, 44, 45, 46, 33, 47, 48, 49, 50, 51, 52, 53, 54, 55, 26, 56, 57, 58, 59, 60, 28, 61, 62, 63, 64, 65, 66, 67, 68, 69, 70, 71, 72, 73, 74, 75, 76, 77, 78, 79, 80, 81, 82, 83, 84, 85, 86, 87, 88, 89, 90, 91, 92, 93, 94, 95, 96, 19, 97, 21, 22, 98, 99, 100, 101, 102, 103, 104, 105, 106, 107, 108, 109, 110, 111, 112, 29, 113, 114, 115, 116, 117, 118, 119, 120, 121, 122, 123, 124, 125, 126, 148, 149, 150, 151, 152, 153, 154, 155, 156, 157, 158, 159, 160, 161, 162, 163, 164, 165] (by decide +kernel) (by decide +kernel)
set_option maxRecDepth 20000 in
theorem gX9_readPages_X6_read : GoodIn wsX9_readPages (wsV RX9 123 RX6 yX6_read wsX6_read) := goodIn_app (goodIn_of _ (by decide +kernel)) ggX9_readPages_X6_read
set_option maxRecDepth 20000 in
theorem ggX9_readPages_X9_takeSpareList : GoodIn wsX9_readPages wsX9_takeSpareList := goodIn_r _ [130, 3, 5, 131, 1, 132, 133, 24, 25, 26, 27, 28, 29, 134, 135, 136, 137, 138, 139, 140, 141, 142, 143, 144, 145, 146, 147, 162, 163, 164, 165, 158, 159, 160, 161] (by decide +kernel) (by decide +kernel)
set_option maxRecDepth 20000 in
theorem gX9_readPages_X9_takeSpareList : GoodIn wsX9_readPages (wsV RX9 137 RX9 yX9_takeSpareList wsX9_takeSpareList) := goodIn_app (goodIn_of _ (by decide +kernel)) ggX9_readPages_X9_takeSpareList
theorem dX9_readPages_0 : decode cX9_readPages 0 = .ok (.aload_n 0, 1) := by decide +kernel
theorem dX9_readPages_1 : decode cX9_readPages 1 = .ok (.iload_n 1, 1) := by decide +kernel
theorem dX9_readPages_2 : decode cX9_readPages 2 = .ok (.invokevirtual 76, 3) := by decide +kernel
theorem dX9_readPages_5 : decode cX9_readPages 5 = .ok (.ifCond .ne 6, 3) := by decide +kernel
theorem dX9_readPages_8 : decode cX9_readPages 8 = .ok (.bipush (-2), 2) := by decide +kernel
theorem dX9_readPages_10 : decode cX9_readPages 10 = .ok (.ireturn, 1) := by decide +kernel
theorem dX9_readPages_11 : decode cX9_readPages 11 = .ok (.aload_n 0, 1) := by decide +kernel
theorem dX9_readPages_12 : decode cX9_readPages 12 = .ok (.getfield 31, 3) := by decide +kernel
theorem dX9_readPages_15 : decode cX9_readPages 15 = .ok (.invokevirtual 105, 3) := by decide +kernel
theorem dX9_readPages_18 : decode cX9_readPages 18 = .ok (.aload_n 0, 1) := by decide +kernel
theorem dX9_readPages_19 : decode cX9_readPages 19 = .ok (.getfield 44, 3) := by decide +kernel
theorem dX9_readPages_22 : decode cX9_readPages 22 = .ok (.aload_n 0, 1) := by decide +kernel
theorem dX9_readPages_23 : decode cX9_readPages 23 = .ok (.getfield 14, 3) := by decide +kernel
theorem dX9_readPages_26 : decode cX9_readPages 26 = .ok (.iload_n 1, 1) := by decide +kernel
theorem dX9_readPages_27 : decode cX9_readPages 27 = .ok (.aload_n 0, 1) := by decide +kernel
theorem dX9_readPages_28 : decode cX9_readPages 28 = .ok (.getfield 31, 3) := by decide +kernel
theorem dX9_readPages_31 : decode cX9_readPages 31 = .ok (.invokevirtual 123, 3) := by decide +kernel
theorem dX9_readPages_34 : decode cX9_readPages 34 = .ok (.aload_n 0, 1) := by decide +kernel
theorem dX9_readPages_35 : decode cX9_readPages 35 = .ok (.aload_n 0, 1) := by decide +kernel
theorem dX9_readPages_36 : decode cX9_readPages 36 = .ok (.getfield 44, 3) := by decide +kernel
theorem dX9_readPages_39 : decode cX9_readPages 39 = .ok (.getfield 127, 3) := by decide +kernel
theorem dX9_readPages_42 : decode cX9_readPages 42 = .ok (.putfield 62, 3) := by decide +kernel
theorem dX9_readPages_45 : decode cX9_readPages 45 = .ok (.aload_n 0, 1) := by decide +kernel
theorem dX9_readPages_46 : decode cX9_readPages 46 = .ok (.aload_n 0, 1) := by decide +kernel
theorem dX9_readPages_47 : decode cX9_readPages 47 = .ok (.getfield 44, 3) := by decide +kernel
theorem dX9_readPages_50 : decode cX9_readPages 50 = .ok (.getfield 128, 3) := by decide +kernel
theorem dX9_readPages_53 : decode cX9_readPages 53 = .ok (.putfield 66, 3) := by decide +kernel
theorem dX9_readPages_56 : decode cX9_readPages 56 = .ok (.aload_n 0, 1) := by decide +kernel
theorem dX9_readPages_57 : decode cX9_readPages 57 = .ok (.aload_n 0, 1) := by decide +kernel
theorem dX9_readPages_58 : decode cX9_readPages 58 = .ok (.getfield 62, 3) := by decide +kernel
theorem dX9_readPages_61 : decode cX9_readPages 61 = .ok (.ifCond .ne 13, 3) := by decide +kernel
theorem dX9_readPages_64 : decode cX9_readPages 64 = .ok (.aload_n 0, 1) := by decide +kernel
theorem dX9_readPages_65 : decode cX9_readPages 65 = .ok (.getfield 44, 3) := by decide +kernel
theorem dX9_readPages_68 : decode cX9_readPages 68 = .ok (.getfield 131, 3) := by decide +kernel
theorem dX9_readPages_71 : decode cX9_readPages 71 = .ok (.goto 4, 3) := by decide +kernel
theorem dX9_readPages_74 : decode cX9_readPages 74 = .ok (.iconst 0, 1) := by decide +kernel
theorem dX9_readPages_75 : decode cX9_readPages 75 = .ok (.putfield 134, 3) := by decide +kernel
theorem dX9_readPages_78 : decode cX9_readPages 78 = .ok (.aload_n 0, 1) := by decide +kernel
theorem dX9_readPages_79 : decode cX9_readPages 79 = .ok (.invokevirtual 137, 3) := by decide +kernel
theorem dX9_readPages_82 : decode cX9_readPages 82 = .ok (.ireturn, 1) := by decide +kernel
set_option maxRecDepth 20000 in
theorem ggX9_readElements_X9_isOnTape : GoodIn wsX9_readElements wsX9_isOnTape := goodIn_r _ [16, 3, 17, 247, 248, 249, 250, 251, 252, 253, 254, 255, 256, 257, 258, 259, 260, 274, 275, 276, 277] (by decide +kernel) (by decide +kernel)
set_option maxRecDepth 20000 in
theorem gX9_readElements_X9_isOnTape : GoodIn wsX9_readElements (wsV RX9 76 RX9 yX9_isOnTape wsX9_isOnTape) := goodIn_app (goodIn_of _ (by decide +kernel)) ggX9_readElements_X9_isOnTape
set_option maxRecDepth 20000 in
theorem ggX9_readElements_X4_empty : GoodIn wsX9_readElements wsX4_empty := goodIn_r _ [22, 23, 24, 25, 26, 27, 28, 29, 30, 31, 278, 279, 280, 281, 274, 275, 276, 277] (by decide +kernel) (by decide +kernel)
set_option maxRecDepth 20000 in
theorem gX9_readElements_X4_empty : GoodIn wsX9_readElements (wsV RX9 105 RX4 yX4_empty wsX4_empty) := goodIn_app (goodIn_of _ (by decide +kernel)) ggX9_readElements_X4_empty
set_option maxRecDepth 20000 in
theorem ggX9_readElements_X1_read : GoodIn wsX9_readElements wsX1_read := goodIn_r _ [36, 37, 38, 39, 40, 41, 42, 43, 44, 45, 46, 47, 48, 49, 50, 51, 35, 52, 53, 54, 55, 56, 57, 58, 59, 60, 61, 62, 63, 64, 65, 66, 67, 68, 69, 70, 71, 72, 73, 28, 74, 30, 75, 76, 77, 78, 79, 80, 81, 82, 83, 84, 85, 86, 87, 88, 89, 90, 91, 92, 93, 94, 95, 96, 97, 98, 99, 100, 101, 102, 103, 104, 105, 106, 107, 108, 109, 110, 111, 112, 113, 114, 115, 116, 117, 118, 119, 120, 121, 122, 123, 124, 125, 126, 127, 128, 129, 130, 131, 132, 133, 134, 135, 136, 137, 138, 139, 140, 141, 142, 143, 144, 145, 146, 147, 148, 149, 150, 151, 152, 153, 154, 155, 156, 157, 158, 159, 160, 161, 162, 163, 164, 165, 166, 167, 168, 169, 170, 171, 172, 173, 174, 175, 176, 177, 178, 179, 180, 181, 182, 183, 184, 185, 186, 187, 188, 189, 190, 191, 192, 193, 194, 195, 196, 197, 198, 199, 200, 201, 202, 203, 204, 205, 206, 207, 208, 209, 210, 211, 212, 213, 21, 214, 23, 24, 215, 216, 217, 218, 219, 220, 221, 222, 223, 224, 225, 226, 227, 228, 229, 31, 230, 231, 232, 233, 234, 235, 236, 237, 238, 239, 261, 262, 263, 264, 265, 266, 267, 268, 269, 270, 271, 272, 273, 282, 283, 284, 285, 286, 274, 275, 276, 277, 278, 279, 280, 281] (by decide +kernel) (by decide +kernel)
set_option maxRecDepth 20000 in
theorem gX9_readElements_X1_read : GoodIn wsX9_readElements (wsV RX9 140 RX1 yX1_read wsX1_read) := goodIn_app (goodIn_of _ (by decide +kernel)) ggX9_readElements_X1_read
set_option maxRecDepth 20000 in
theorem ggX9_readElements_X9_takeSpareList : GoodIn wsX9_readElements wsX9_takeSpareList := goodIn_r _ [243, 3, 5, 244, 1, 245, 246, 26, 27, 28, 29, 30, 31, 247, 248, 249, 250, 251, 252, 253, 254, 255, 256, 257, 258, 259, 260, 278, 279, 280, 281, 274, 275, 276, 277] (by decide +kernel) (by decide +kernel)
set_option maxRecDepth 20000 in
theorem gX9_readElements_X9_takeSpareList : GoodIn wsX9_readElements (wsV RX9 137 RX9 yX9_takeSpareList wsX9_takeSpareList) := goodIn_app (goodIn_of _ (by decide +kernel)) ggX9_readElements_X9_takeSpareList
theorem dX9_readElements_0 : decode cX9_readElements 0 = .ok (.aload_n 0, 1) := by decide +kernel
theorem dX9_readElements_1 : decode cX9_readElements 1 = .ok (.iload_n 1, 1) := by decide +kernel
theorem dX9_readElements_2 : decode cX9_readElements 2 = .ok (.invokevirtual 76, 3) := by decide +kernel
theorem dX9_readElements_5 : decode cX9_readElements 5 = .ok (.ifCond .ne 6, 3) := by decide +kernel
theorem dX9_readElements_8 : decode cX9_readElements 8 = .ok (.bipush (-2), 2) := by decide +kernel
theorem dX9_readElements_10 : decode cX9_readElements 10 = .ok (.ireturn, 1) := by decide +kernel
theorem dX9_readElements_11 : decode cX9_readElements 11 = .ok (.aload_n 0, 1) := by decide +kernel
theorem dX9_readElements_12 : decode cX9_readElements 12 = .ok (.getfield 31, 3) := by decide +kernel
theorem dX9_readElements_15 : decode cX9_readElements 15 = .ok (.invokevirtual 105, 3) := by decide +kernel
theorem dX9_readElements_18 : decode cX9_readElements 18 = .ok (.aload_n 0, 1) := by decide +kernel
theorem dX9_readElements_19 : decode cX9_readElements 19 = .ok (.getfield 58, 3) := by decide +kernel
theorem dX9_readElements_22 : decode cX9_readElements 22 = .ok (.aload_n 0, 1) := by decide +kernel
theorem dX9_readElements_23 : decode cX9_readElements 23 = .ok (.getfield 14, 3) := by decide +kernel
theorem dX9_readElements_26 : decode cX9_readElements 26 = .ok (.iload_n 1, 1) := by decide +kernel
theorem dX9_readElements_27 : decode cX9_readElements 27 = .ok (.aload_n 0, 1) := by decide +kernel
theorem dX9_readElements_28 : decode cX9_readElements 28 = .ok (.getfield 31, 3) := by decide +kernel
theorem dX9_readElements_31 : decode cX9_readElements 31 = .ok (.invokevirtual 140, 3) := by decide +kernel
theorem dX9_readElements_34 : decode cX9_readElements 34 = .ok (.aload_n 0, 1) := by decide +kernel
theorem dX9_readElements_35 : decode cX9_readElements 35 = .ok (.aload_n 0, 1) := by decide +kernel
theorem dX9_readElements_36 : decode cX9_readElements 36 = .ok (.getfield 58, 3) := by decide +kernel
theorem dX9_readElements_39 : decode cX9_readElements 39 = .ok (.getfield 141, 3) := by decide +kernel
theorem dX9_readElements_42 : decode cX9_readElements 42 = .ok (.putfield 62, 3) := by decide +kernel
theorem dX9_readElements_45 : decode cX9_readElements 45 = .ok (.aload_n 0, 1) := by decide +kernel
theorem dX9_readElements_46 : decode cX9_readElements 46 = .ok (.aload_n 0, 1) := by decide +kernel
theorem dX9_readElements_47 : decode cX9_readElements 47 = .ok (.getfield 58, 3) := by decide +kernel
theorem dX9_readElements_50 : decode cX9_readElements 50 = .ok (.getfield 142, 3) := by decide +kernel
theorem dX9_readElements_53 : decode cX9_readElements 53 = .ok (.putfield 66, 3) := by decide +kernel
theorem dX9_readElements_56 : decode cX9_readElements 56 = .ok (.aload_n 0, 1) := by decide +kernel
theorem dX9_readElements_57 : decode cX9_readElements 57 = .ok (.aload_n 0, 1) := by decide +kernel
theorem dX9_readElements_58 : decode cX9_readElements 58 = .ok (.getfield 62, 3) := by decide +kernel
theorem dX9_readElements_61 : decode cX9_readElements 61 = .ok (.ifCond .ne 13, 3) := by decide +kernel
theorem dX9_readElements_64 : decode cX9_readElements 64 = .ok (.aload_n 0, 1) := by decide +kernel
theorem dX9_readElements_65 : decode cX9_readElements 65 = .ok (.getfield 58, 3) := by decide +kernel
theorem dX9_readElements_68 : decode cX9_readElements 68 = .ok (.getfield 143, 3) := by decide +kernel
theorem dX9_readElements_71 : decode cX9_readElements 71 = .ok (.goto 4, 3) := by decide +kernel
theorem dX9_readElements_74 : decode cX9_readElements 74 = .ok (.iconst 0, 1) := by decide +kernel
theorem dX9_readElements_75 : decode cX9_readElements 75 = .ok (.putfield 146, 3) := by decide +kernel
theorem dX9_readElements_78 : decode cX9_readElements 78 = .ok (.aload_n 0, 1) := by decide +kernel
theorem dX9_readElements_79 : decode cX9_readElements 79 = .ok (.aload_n 0, 1) := by decide +kernel
theorem dX9_readElements_80 : decode cX9_readElements 80 = .ok (.getfield 62, 3) := by decide +kernel
theorem dX9_readElements_83 : decode cX9_readElements 83 = .ok (.ifCond .ne 13, 3) := by decide +kernel
theorem dX9_readElements_86 : decode cX9_readElements 86 = .ok (.aload_n 0, 1) := by decide +kernel
theorem dX9_readElements_87 : decode cX9_readElements 87 = .ok (.getfield 58, 3) := by decide +kernel
theorem dX9_readElements_90 : decode cX9_readElements 90 = .ok (.getfield 149, 3) := by decide +kernel
theorem dX9_readElements_93 : decode cX9_readElements 93 = .ok (.goto 4, 3) := by decide +kernel
theorem dX9_readElements_96 : decode cX9_readElements 96 = .ok (.iconst 0, 1) := by decide +kernel
theorem dX9_readElements_97 : decode cX9_readElements 97 = .ok (.putfield 152, 3) := by decide +kernel
theorem dX9_readElements_100 : decode cX9_readElements 100 = .ok (.aload_n 0, 1) := by decide +kernel
theorem dX9_readElements_101 : decode cX9_readElements 101 = .ok (.invokevirtual 137, 3) := by decide +kernel
theorem dX9_readElements_104 : decode cX9_readElements 104 = .ok (.ireturn, 1) := by decide +kernel
theorem dX9_wrong_0 : decode cX9_wrong 0 = .ok (.iload_n 1, 1) := by decide +kernel
theorem dX9_wrong_1 : decode cX9_wrong 1 = .ok (.lookupswitch 37 #[(0, 27), (1, 32)], 27) := by decide +kernel
theorem dX9_wrong_28 : decode cX9_wrong 28 = .ok (.aload_n 0, 1) := by decide +kernel
theorem dX9_wrong_29 : decode cX9_wrong 29 = .ok (.getfield 62, 3) := by decide +kernel
theorem dX9_wrong_32 : decode cX9_wrong 32 = .ok (.ireturn, 1) := by decide +kernel
theorem dX9_wrong_33 : decode cX9_wrong 33 = .ok (.aload_n 0, 1) := by decide +kernel
theorem dX9_wrong_34 : decode cX9_wrong 34 = .ok (.getfield 66, 3) := by decide +kernel
theorem dX9_wrong_37 : decode cX9_wrong 37 = .ok (.ireturn, 1) := by decide +kernel
theorem dX9_wrong_38 : decode cX9_wrong 38 = .ok (.iconst (-1), 1) := by decide +kernel
theorem dX9_wrong_39 : decode cX9_wrong 39 = .ok (.ireturn, 1) := by decide +kernel
set_option maxRecDepth 20000 in
theorem ggX9_turn_X8_becomeLike : GoodIn wsX9_turn wsX8_becomeLike := goodIn_r _ [8, 9, 10, 11, 12, 13, 14, 15, 16, 17, 18, 19, 20, 35, 36, 37, 38] (by decide +kernel) (by decide +kernel)
set_option maxRecDepth 20000 in
theorem gX9_turn_X8_becomeLike : GoodIn wsX9_turn (wsV RX9 155 RX8 yX8_becomeLike wsX8_becomeLike) := goodIn_app (goodIn_of _ (by decide +kernel)) ggX9_turn_X8_becomeLike
theorem dX9_turn_0 : decode cX9_turn 0 = .ok (.aload_n 0, 1) := by decide +kernel
theorem dX9_turn_1 : decode cX9_turn 1 = .ok (.getfield 14, 3) := by decide +kernel
theorem dX9_turn_4 : decode cX9_turn 4 = .ok (.aload_n 0, 1) := by decide +kernel
theorem dX9_turn_5 : decode cX9_turn 5 = .ok (.getfield 18, 3) := by decide +kernel
theorem dX9_turn_8 : decode cX9_turn 8 = .ok (.invokevirtual 155, 3) := by decide +kernel
theorem dX9_turn_11 : decode cX9_turn 11 = .ok (.aload_n 0, 1) := by decide +kernel
theorem dX9_turn_12 : decode cX9_turn 12 = .ok (.getfield 14, 3) := by decide +kernel
theorem dX9_turn_15 : decode cX9_turn 15 = .ok (.getfield 69, 3) := by decide +kernel
theorem dX9_turn_18 : decode cX9_turn 18 = .ok (.ireturn, 1) := by decide +kernel
theorem dX9_count_0 : decode cX9_count 0 = .ok (.iload_n 1, 1) := by decide +kernel
theorem dX9_count_1 : decode cX9_count 1 = .ok (.tableswitch 93 0 6 #[43, 51, 62, 70, 78, 83, 88], 43) := by decide +kernel
theorem dX9_count_44 : decode cX9_count 44 = .ok (.aload_n 0, 1) := by decide +kernel
theorem dX9_count_45 : decode cX9_count 45 = .ok (.getfield 27, 3) := by decide +kernel
theorem dX9_count_48 : decode cX9_count 48 = .ok (.getfield 102, 3) := by decide +kernel
theorem dX9_count_51 : decode cX9_count 51 = .ok (.ireturn, 1) := by decide +kernel
theorem dX9_count_52 : decode cX9_count 52 = .ok (.aload_n 0, 1) := by decide +kernel
theorem dX9_count_53 : decode cX9_count 53 = .ok (.getfield 27, 3) := by decide +kernel
theorem dX9_count_56 : decode cX9_count 56 = .ok (.getfield 88, 3) := by decide +kernel
theorem dX9_count_59 : decode cX9_count 59 = .ok (.getfield 69, 3) := by decide +kernel
theorem dX9_count_62 : decode cX9_count 62 = .ok (.ireturn, 1) := by decide +kernel
theorem dX9_count_63 : decode cX9_count 63 = .ok (.aload_n 0, 1) := by decide +kernel
theorem dX9_count_64 : decode cX9_count 64 = .ok (.getfield 18, 3) := by decide +kernel
theorem dX9_count_67 : decode cX9_count 67 = .ok (.getfield 69, 3) := by decide +kernel
theorem dX9_count_70 : decode cX9_count 70 = .ok (.ireturn, 1) := by decide +kernel
theorem dX9_count_71 : decode cX9_count 71 = .ok (.aload_n 0, 1) := by decide +kernel
theorem dX9_count_72 : decode cX9_count 72 = .ok (.getfield 14, 3) := by decide +kernel
theorem dX9_count_75 : decode cX9_count 75 = .ok (.getfield 69, 3) := by decide +kernel
theorem dX9_count_78 : decode cX9_count 78 = .ok (.ireturn, 1) := by decide +kernel
theorem dX9_count_79 : decode cX9_count 79 = .ok (.aload_n 0, 1) := by decide +kernel
theorem dX9_count_80 : decode cX9_count 80 = .ok (.getfield 134, 3) := by decide +kernel
theorem dX9_count_83 : decode cX9_count 83 = .ok (.ireturn, 1) := by decide +kernel
theorem dX9_count_84 : decode cX9_count 84 = .ok (.aload_n 0, 1) := by decide +kernel
theorem dX9_count_85 : decode cX9_count 85 = .ok (.getfield 146, 3) := by decide +kernel
theorem dX9_count_88 : decode cX9_count 88 = .ok (.ireturn, 1) := by decide +kernel
theorem dX9_count_89 : decode cX9_count 89 = .ok (.aload_n 0, 1) := by decide +kernel
theorem dX9_count_90 : decode cX9_count 90 = .ok (.getfield 152, 3) := by decide +kernel
theorem dX9_count_93 : decode cX9_count 93 = .ok (.ireturn, 1) := by decide +kernel
theorem dX9_count_94 : decode cX9_count 94 = .ok (.iconst (-1), 1) := by decide +kernel
theorem dX9_count_95 : decode cX9_count 95 = .ok (.ireturn, 1) := by decide +kernel
set_option maxRecDepth 20000 in
theorem ggX9_size_X4_bytesOf : GoodIn wsX9_size wsX4_bytesOf := goodIn_r _ [6, 7, 8, 9, 10, 5, 11, 12, 13, 14, 15, 16, 31, 32, 33, 34] (by decide +kernel) (by decide +kernel)
set_option maxRecDepth 20000 in
theorem gX9_size_X4_bytesOf : GoodIn wsX9_size (wsV RX9 159 RX4 yX4_bytesOf wsX4_bytesOf) := goodIn_app (goodIn_of _ (by decide +kernel)) ggX9_size_X4_bytesOf
theorem dX9_size_0 : decode cX9_size 0 = .ok (.aload_n 0, 1) := by decide +kernel
theorem dX9_size_1 : decode cX9_size 1 = .ok (.getfield 27, 3) := by decide +kernel
theorem dX9_size_4 : decode cX9_size 4 = .ok (.iload_n 1, 1) := by decide +kernel
theorem dX9_size_5 : decode cX9_size 5 = .ok (.invokevirtual 159, 3) := by decide +kernel
theorem dX9_size_8 : decode cX9_size 8 = .ok (.ireturn, 1) := by decide +kernel
set_option maxRecDepth 20000 in
theorem ggX9_time_X4_timeOf : GoodIn wsX9_time wsX4_timeOf := goodIn_r _ [6, 7, 8, 9, 10, 11, 5, 12, 13, 28, 29, 30, 31] (by decide +kernel) (by decide +kernel)
set_option maxRecDepth 20000 in
theorem gX9_time_X4_timeOf : GoodIn wsX9_time (wsV RX9 163 RX4 yX4_timeOf wsX4_timeOf) := goodIn_app (goodIn_of _ (by decide +kernel)) ggX9_time_X4_timeOf
theorem dX9_time_0 : decode cX9_time 0 = .ok (.aload_n 0, 1) := by decide +kernel
theorem dX9_time_1 : decode cX9_time 1 = .ok (.getfield 27, 3) := by decide +kernel
theorem dX9_time_4 : decode cX9_time 4 = .ok (.iload_n 1, 1) := by decide +kernel
theorem dX9_time_5 : decode cX9_time 5 = .ok (.invokevirtual 163, 3) := by decide +kernel
theorem dX9_time_8 : decode cX9_time 8 = .ok (.lreturn, 1) := by decide +kernel
set_option maxRecDepth 20000 in
theorem ggX9_octet_X4_byteOf : GoodIn wsX9_octet wsX4_byteOf := goodIn_r _ [6, 7, 8, 9, 10, 5, 11, 12, 13, 14, 15, 16, 17, 18, 19, 20, 21, 22, 23, 24, 25, 26, 27, 28, 43, 44, 45, 46, 47, 48, 49, 50] (by decide +kernel) (by decide +kernel)
set_option maxRecDepth 20000 in
theorem gX9_octet_X4_byteOf : GoodIn wsX9_octet (wsV RX9 167 RX4 yX4_byteOf wsX4_byteOf) := goodIn_app (goodIn_of _ (by decide +kernel)) ggX9_octet_X4_byteOf
theorem dX9_octet_0 : decode cX9_octet 0 = .ok (.aload_n 0, 1) := by decide +kernel
theorem dX9_octet_1 : decode cX9_octet 1 = .ok (.getfield 27, 3) := by decide +kernel
theorem dX9_octet_4 : decode cX9_octet 4 = .ok (.iload_n 1, 1) := by decide +kernel
theorem dX9_octet_5 : decode cX9_octet 5 = .ok (.iload_n 2, 1) := by decide +kernel
theorem dX9_octet_6 : decode cX9_octet 6 = .ok (.invokevirtual 167, 3) := by decide +kernel
theorem dX9_octet_9 : decode cX9_octet 9 = .ok (.ireturn, 1) := by decide +kernel
set_option maxRecDepth 20000 in
theorem ggX9_out_X8_at : GoodIn wsX9_out wsX8_at := goodIn_r _ [6, 7, 8, 23, 24, 25, 26] (by decide +kernel) (by decide +kernel)
set_option maxRecDepth 20000 in
theorem gX9_out_X8_at : GoodIn wsX9_out (wsV RX9 171 RX8 yX8_at wsX8_at) := goodIn_app (goodIn_of _ (by decide +kernel)) ggX9_out_X8_at
theorem dX9_out_0 : decode cX9_out 0 = .ok (.aload_n 0, 1) := by decide +kernel
theorem dX9_out_1 : decode cX9_out 1 = .ok (.getfield 18, 3) := by decide +kernel
theorem dX9_out_4 : decode cX9_out 4 = .ok (.iload_n 1, 1) := by decide +kernel
theorem dX9_out_5 : decode cX9_out 5 = .ok (.invokevirtual 171, 3) := by decide +kernel
theorem dX9_out_8 : decode cX9_out 8 = .ok (.ireturn, 1) := by decide +kernel
set_option maxRecDepth 20000 in
theorem ggX9_patch_X8_change : GoodIn wsX9_patch wsX8_change := goodIn_r _ [6, 7, 8, 23, 24, 25, 26] (by decide +kernel) (by decide +kernel)
set_option maxRecDepth 20000 in
theorem gX9_patch_X8_change : GoodIn wsX9_patch (wsV RX9 174 RX8 yX8_change wsX8_change) := goodIn_app (goodIn_of _ (by decide +kernel)) ggX9_patch_X8_change
theorem dX9_patch_0 : decode cX9_patch 0 = .ok (.aload_n 0, 1) := by decide +kernel
theorem dX9_patch_1 : decode cX9_patch 1 = .ok (.getfield 14, 3) := by decide +kernel
theorem dX9_patch_4 : decode cX9_patch 4 = .ok (.iload_n 1, 1) := by decide +kernel
theorem dX9_patch_5 : decode cX9_patch 5 = .ok (.iload_n 2, 1) := by decide +kernel
theorem dX9_patch_6 : decode cX9_patch 6 = .ok (.invokevirtual 174, 3) := by decide +kernel
theorem dX9_patch_9 : decode cX9_patch 9 = .ok (.ireturn, 1) := by decide +kernel
set_option maxRecDepth 20000 in
theorem ggX9_sum_X5_isMarked : GoodIn wsX9_sum wsX5_isMarked := goodIn_r _ [6, 7, 8, 9, 10, 11, 12, 13, 14, 15, 16, 17, 18, 48, 49, 50, 51] (by decide +kernel) (by decide +kernel)
set_option maxRecDepth 20000 in
theorem gX9_sum_X5_isMarked : GoodIn wsX9_sum (va_wsS RX9 177 yX5_isMarked wsX5_isMarked) := goodIn_app (goodIn_of _ (by decide +kernel)) ggX9_sum_X5_isMarked
set_option maxRecDepth 20000 in
theorem ggX9_sum_X5_endOf : GoodIn wsX9_sum wsX5_endOf := goodIn_r _ [21, 22, 14, 15, 11, 16, 17, 18, 48, 49, 50, 51] (by decide +kernel) (by decide +kernel)
set_option maxRecDepth 20000 in
theorem gX9_sum_X5_endOf : GoodIn wsX9_sum (va_wsS RX9 181 yX5_endOf wsX5_endOf) := goodIn_app (goodIn_of _ (by decide +kernel)) ggX9_sum_X5_endOf
set_option maxRecDepth 20000 in
theorem ggX9_sum_X5_makeSumRight : GoodIn wsX9_sum wsX5_makeSumRight := goodIn_r _ [25, 26, 27, 5, 28, 29, 22, 14, 15, 11, 16, 17, 18, 30, 31, 32, 33, 48, 49, 50, 51] (by decide +kernel) (by decide +kernel)
set_option maxRecDepth 20000 in
theorem gX9_sum_X5_makeSumRight : GoodIn wsX9_sum (va_wsS RX9 185 yX5_makeSumRight wsX5_makeSumRight) := goodIn_app (goodIn_of _ (by decide +kernel)) ggX9_sum_X5_makeSumRight
theorem dX9_sum_0 : decode cX9_sum 0 = .ok (.iload_n 1, 1) := by decide +kernel
theorem dX9_sum_1 : decode cX9_sum 1 = .ok (.ifCond .lt 14, 3) := by decide +kernel
theorem dX9_sum_4 : decode cX9_sum 4 = .ok (.aload_n 0, 1) := by decide +kernel
theorem dX9_sum_5 : decode cX9_sum 5 = .ok (.getfield 14, 3) := by decide +kernel
theorem dX9_sum_8 : decode cX9_sum 8 = .ok (.iload_n 1, 1) := by decide +kernel
theorem dX9_sum_9 : decode cX9_sum 9 = .ok (.invokestatic 177, 3) := by decide +kernel
theorem dX9_sum_12 : decode cX9_sum 12 = .ok (.ifCond .ne 5, 3) := by decide +kernel
theorem dX9_sum_15 : decode cX9_sum 15 = .ok (.iconst 0, 1) := by decide +kernel
theorem dX9_sum_16 : decode cX9_sum 16 = .ok (.ireturn, 1) := by decide +kernel
theorem dX9_sum_17 : decode cX9_sum 17 = .ok (.aload_n 0, 1) := by decide +kernel
theorem dX9_sum_18 : decode cX9_sum 18 = .ok (.getfield 14, 3) := by decide +kernel
theorem dX9_sum_21 : decode cX9_sum 21 = .ok (.iload_n 1, 1) := by decide +kernel
theorem dX9_sum_22 : decode cX9_sum 22 = .ok (.aload_n 0, 1) := by decide +kernel
theorem dX9_sum_23 : decode cX9_sum 23 = .ok (.getfield 14, 3) := by decide +kernel
theorem dX9_sum_26 : decode cX9_sum 26 = .ok (.getfield 69, 3) := by decide +kernel
theorem dX9_sum_29 : decode cX9_sum 29 = .ok (.invokestatic 181, 3) := by decide +kernel
theorem dX9_sum_32 : decode cX9_sum 32 = .ok (.istore_n 2, 1) := by decide +kernel
theorem dX9_sum_33 : decode cX9_sum 33 = .ok (.iload_n 2, 1) := by decide +kernel
theorem dX9_sum_34 : decode cX9_sum 34 = .ok (.iconst (-1), 1) := by decide +kernel
theorem dX9_sum_35 : decode cX9_sum 35 = .ok (.if_icmp .ne 5, 3) := by decide +kernel
theorem dX9_sum_38 : decode cX9_sum 38 = .ok (.iconst 0, 1) := by decide +kernel
theorem dX9_sum_39 : decode cX9_sum 39 = .ok (.ireturn, 1) := by decide +kernel
theorem dX9_sum_40 : decode cX9_sum 40 = .ok (.aload_n 0, 1) := by decide +kernel
theorem dX9_sum_41 : decode cX9_sum 41 = .ok (.getfield 14, 3) := by decide +kernel
theorem dX9_sum_44 : decode cX9_sum 44 = .ok (.iload_n 1, 1) := by decide +kernel
theorem dX9_sum_45 : decode cX9_sum 45 = .ok (.iload_n 2, 1) := by decide +kernel
theorem dX9_sum_46 : decode cX9_sum 46 = .ok (.invokestatic 185, 3) := by decide +kernel
theorem dX9_sum_49 : decode cX9_sum 49 = .ok (.iconst 1, 1) := by decide +kernel
theorem dX9_sum_50 : decode cX9_sum 50 = .ok (.ireturn, 1) := by decide +kernel
theorem dX9_isOnTape_0 : decode cX9_isOnTape 0 = .ok (.iload_n 1, 1) := by decide +kernel
theorem dX9_isOnTape_1 : decode cX9_isOnTape 1 = .ok (.ifCond .lt 18, 3) := by decide +kernel
theorem dX9_isOnTape_4 : decode cX9_isOnTape 4 = .ok (.iload_n 1, 1) := by decide +kernel
theorem dX9_isOnTape_5 : decode cX9_isOnTape 5 = .ok (.aload_n 0, 1) := by decide +kernel
theorem dX9_isOnTape_6 : decode cX9_isOnTape 6 = .ok (.getfield 14, 3) := by decide +kernel
theorem dX9_isOnTape_9 : decode cX9_isOnTape 9 = .ok (.getfield 69, 3) := by decide +kernel
theorem dX9_isOnTape_12 : decode cX9_isOnTape 12 = .ok (.if_icmp .gt 7, 3) := by decide +kernel
theorem dX9_isOnTape_15 : decode cX9_isOnTape 15 = .ok (.iconst 1, 1) := by decide +kernel
theorem dX9_isOnTape_16 : decode cX9_isOnTape 16 = .ok (.goto 4, 3) := by decide +kernel
theorem dX9_isOnTape_19 : decode cX9_isOnTape 19 = .ok (.iconst 0, 1) := by decide +kernel
theorem dX9_isOnTape_20 : decode cX9_isOnTape 20 = .ok (.ireturn, 1) := by decide +kernel
theorem dX9_takeSpareRow_0 : decode cX9_takeSpareRow 0 = .ok (.aload_n 0, 1) := by decide +kernel
theorem dX9_takeSpareRow_1 : decode cX9_takeSpareRow 1 = .ok (.getfield 21, 3) := by decide +kernel
theorem dX9_takeSpareRow_4 : decode cX9_takeSpareRow 4 = .ok (.getfield 188, 3) := by decide +kernel
theorem dX9_takeSpareRow_7 : decode cX9_takeSpareRow 7 = .ok (.ifCond .eq 5, 3) := by decide +kernel
theorem dX9_takeSpareRow_10 : decode cX9_takeSpareRow 10 = .ok (.iconst (-1), 1) := by decide +kernel
theorem dX9_takeSpareRow_11 : decode cX9_takeSpareRow 11 = .ok (.ireturn, 1) := by decide +kernel
theorem dX9_takeSpareRow_12 : decode cX9_takeSpareRow 12 = .ok (.aload_n 0, 1) := by decide +kernel
theorem dX9_takeSpareRow_13 : decode cX9_takeSpareRow 13 = .ok (.getfield 18, 3) := by decide +kernel
theorem dX9_takeSpareRow_16 : decode cX9_takeSpareRow 16 = .ok (.astore_n 1, 1) := by decide +kernel
theorem dX9_takeSpareRow_17 : decode cX9_takeSpareRow 17 = .ok (.aload_n 0, 1) := by decide +kernel
theorem dX9_takeSpareRow_18 : decode cX9_takeSpareRow 18 = .ok (.aload_n 0, 1) := by decide +kernel
theorem dX9_takeSpareRow_19 : decode cX9_takeSpareRow 19 = .ok (.getfield 21, 3) := by decide +kernel
theorem dX9_takeSpareRow_22 : decode cX9_takeSpareRow 22 = .ok (.putfield 18, 3) := by decide +kernel
theorem dX9_takeSpareRow_25 : decode cX9_takeSpareRow 25 = .ok (.aload_n 0, 1) := by decide +kernel
theorem dX9_takeSpareRow_26 : decode cX9_takeSpareRow 26 = .ok (.aload_n 1, 1) := by decide +kernel
theorem dX9_takeSpareRow_27 : decode cX9_takeSpareRow 27 = .ok (.putfield 21, 3) := by decide +kernel
theorem dX9_takeSpareRow_30 : decode cX9_takeSpareRow 30 = .ok (.aload_n 0, 1) := by decide +kernel
theorem dX9_takeSpareRow_31 : decode cX9_takeSpareRow 31 = .ok (.getfield 18, 3) := by decide +kernel
theorem dX9_takeSpareRow_34 : decode cX9_takeSpareRow 34 = .ok (.getfield 69, 3) := by decide +kernel
theorem dX9_takeSpareRow_37 : decode cX9_takeSpareRow 37 = .ok (.ireturn, 1) := by decide +kernel
set_option maxRecDepth 20000 in
theorem ggX9_takeSpareList_X8_empty : GoodIn wsX9_takeSpareList wsX8_empty := goodIn_r _ [10, 11, 12, 31, 32, 33, 34] (by decide +kernel) (by decide +kernel)
set_option maxRecDepth 20000 in
theorem gX9_takeSpareList_X8_empty : GoodIn wsX9_takeSpareList (wsV RX9 99 RX8 yX8_empty wsX8_empty) := goodIn_app (goodIn_of _ (by decide +kernel)) ggX9_takeSpareList_X8_empty
theorem dX9_takeSpareList_0 : decode cX9_takeSpareList 0 = .ok (.aload_n 0, 1) := by decide +kernel
theorem dX9_takeSpareList_1 : decode cX9_takeSpareList 1 = .ok (.getfield 14, 3) := by decide +kernel
theorem dX9_takeSpareList_4 : decode cX9_takeSpareList 4 = .ok (.invokevirtual 99, 3) := by decide +kernel
theorem dX9_takeSpareList_7 : decode cX9_takeSpareList 7 = .ok (.aload_n 0, 1) := by decide +kernel
theorem dX9_takeSpareList_8 : decode cX9_takeSpareList 8 = .ok (.getfield 62, 3) := by decide +kernel
theorem dX9_takeSpareList_11 : decode cX9_takeSpareList 11 = .ok (.ifCond .eq 5, 3) := by decide +kernel
theorem dX9_takeSpareList_14 : decode cX9_takeSpareList 14 = .ok (.iconst (-1), 1) := by decide +kernel
theorem dX9_takeSpareList_15 : decode cX9_takeSpareList 15 = .ok (.ireturn, 1) := by decide +kernel
theorem dX9_takeSpareList_16 : decode cX9_takeSpareList 16 = .ok (.aload_n 0, 1) := by decide +kernel
theorem dX9_takeSpareList_17 : decode cX9_takeSpareList 17 = .ok (.getfield 27, 3) := by decide +kernel
theorem dX9_takeSpareList_20 : decode cX9_takeSpareList 20 = .ok (.astore_n 1, 1) := by decide +kernel
theorem dX9_takeSpareList_21 : decode cX9_takeSpareList 21 = .ok (.aload_n 0, 1) := by decide +kernel
theorem dX9_takeSpareList_22 : decode cX9_takeSpareList 22 = .ok (.aload_n 0, 1) := by decide +kernel
theorem dX9_takeSpareList_23 : decode cX9_takeSpareList 23 = .ok (.getfield 31, 3) := by decide +kernel
theorem dX9_takeSpareList_26 : decode cX9_takeSpareList 26 = .ok (.putfield 27, 3) := by decide +kernel
theorem dX9_takeSpareList_29 : decode cX9_takeSpareList 29 = .ok (.aload_n 0, 1) := by decide +kernel
theorem dX9_takeSpareList_30 : decode cX9_takeSpareList 30 = .ok (.aload_n 1, 1) := by decide +kernel
theorem dX9_takeSpareList_31 : decode cX9_takeSpareList 31 = .ok (.putfield 31, 3) := by decide +kernel
theorem dX9_takeSpareList_34 : decode cX9_takeSpareList 34 = .ok (.aload_n 0, 1) := by decide +kernel
theorem dX9_takeSpareList_35 : decode cX9_takeSpareList 35 = .ok (.getfield 27, 3) := by decide +kernel
theorem dX9_takeSpareList_38 : decode cX9_takeSpareList 38 = .ok (.getfield 102, 3) := by decide +kernel
theorem dX9_takeSpareList_41 : decode cX9_takeSpareList 41 = .ok (.ireturn, 1) := by decide +kernel
theorem dX10_init_0 : decode cX10_init 0 = .ok (.aload_n 0, 1) := by decide +kernel
theorem dX10_init_1 : decode cX10_init 1 = .ok (.invokespecial 1, 3) := by decide +kernel
theorem dX10_init_4 : decode cX10_init 4 = .ok (.aload_n 0, 1) := by decide +kernel
theorem dX10_init_5 : decode cX10_init 5 = .ok (.sipush 6000, 3) := by decide +kernel
theorem dX10_init_8 : decode cX10_init 8 = .ok (.newarray .byte, 2) := by decide +kernel
theorem dX10_init_10 : decode cX10_init 10 = .ok (.putfield 7, 3) := by decide +kernel
theorem dX10_init_13 : decode cX10_init 13 = .ok (.aload_n 0, 1) := by decide +kernel
theorem dX10_init_14 : decode cX10_init 14 = .ok (.sipush 6000, 3) := by decide +kernel
theorem dX10_init_17 : decode cX10_init 17 = .ok (.newarray .byte, 2) := by decide +kernel
theorem dX10_init_19 : decode cX10_init 19 = .ok (.putfield 13, 3) := by decide +kernel
theorem dX10_init_22 : decode cX10_init 22 = .ok (.aload_n 0, 1) := by decide +kernel
theorem dX10_init_23 : decode cX10_init 23 = .ok (.sipush 6000, 3) := by decide +kernel
theorem dX10_init_26 : decode cX10_init 26 = .ok (.newarray .byte, 2) := by decide +kernel
theorem dX10_init_28 : decode cX10_init 28 = .ok (.putfield 16, 3) := by decide +kernel
theorem dX10_init_31 : decode cX10_init 31 = .ok (.aload_n 0, 1) := by decide +kernel
theorem dX10_init_32 : decode cX10_init 32 = .ok (.bipush 64, 2) := by decide +kernel
theorem dX10_init_34 : decode cX10_init 34 = .ok (.newarray .int, 2) := by decide +kernel
theorem dX10_init_36 : decode cX10_init 36 = .ok (.putfield 19, 3) := by decide +kernel
theorem dX10_init_39 : decode cX10_init 39 = .ok (.aload_n 0, 1) := by decide +kernel
theorem dX10_init_40 : decode cX10_init 40 = .ok (.bipush 64, 2) := by decide +kernel
theorem dX10_init_42 : decode cX10_init 42 = .ok (.newarray .int, 2) := by decide +kernel
theorem dX10_init_44 : decode cX10_init 44 = .ok (.putfield 23, 3) := by decide +kernel
theorem dX10_init_47 : decode cX10_init 47 = .ok (.aload_n 0, 1) := by decide +kernel
theorem dX10_init_48 : decode cX10_init 48 = .ok (.bipush 64, 2) := by decide +kernel
theorem dX10_init_50 : decode cX10_init 50 = .ok (.newarray .long, 2) := by decide +kernel
theorem dX10_init_52 : decode cX10_init 52 = .ok (.putfield 26, 3) := by decide +kernel
theorem dX10_init_55 : decode cX10_init 55 = .ok (.aload_n 0, 1) := by decide +kernel
theorem dX10_init_56 : decode cX10_init 56 = .ok (.bipush 64, 2) := by decide +kernel
theorem dX10_init_58 : decode cX10_init 58 = .ok (.newarray .long, 2) := by decide +kernel
theorem dX10_init_60 : decode cX10_init 60 = .ok (.putfield 30, 3) := by decide +kernel
theorem dX10_init_63 : decode cX10_init 63 = .ok (.aload_n 0, 1) := by decide +kernel
theorem dX10_init_64 : decode cX10_init 64 = .ok (.sipush 2400, 3) := by decide +kernel
theorem dX10_init_67 : decode cX10_init 67 = .ok (.newarray .byte, 2) := by decide +kernel
theorem dX10_init_69 : decode cX10_init 69 = .ok (.putfield 33, 3) := by decide +kernel
theorem dX10_init_72 : decode cX10_init 72 = .ok (.aload_n 0, 1) := by decide +kernel
theorem dX10_init_73 : decode cX10_init 73 = .ok (.sipush 2400, 3) := by decide +kernel
theorem dX10_init_76 : decode cX10_init 76 = .ok (.newarray .byte, 2) := by decide +kernel
theorem dX10_init_78 : decode cX10_init 78 = .ok (.putfield 36, 3) := by decide +kernel
theorem dX10_init_81 : decode cX10_init 81 = .ok (.aload_n 0, 1) := by decide +kernel
theorem dX10_init_82 : decode cX10_init 82 = .ok (.iconst (-1), 1) := by decide +kernel
theorem dX10_init_83 : decode cX10_init 83 = .ok (.putfield 39, 3) := by decide +kernel
theorem dX10_init_86 : decode cX10_init 86 = .ok (.aload_n 0, 1) := by decide +kernel
theorem dX10_init_87 : decode cX10_init 87 = .ok (.sipush 256, 3) := by decide +kernel
theorem dX10_init_90 : decode cX10_init 90 = .ok (.newarray .int, 2) := by decide +kernel
theorem dX10_init_92 : decode cX10_init 92 = .ok (.putfield 43, 3) := by decide +kernel
theorem dX10_init_95 : decode cX10_init 95 = .ok (.aload_n 0, 1) := by decide +kernel
theorem dX10_init_96 : decode cX10_init 96 = .ok (.bipush 40, 2) := by decide +kernel
theorem dX10_init_98 : decode cX10_init 98 = .ok (.newarray .byte, 2) := by decide +kernel
theorem dX10_init_100 : decode cX10_init 100 = .ok (.dup, 1) := by decide +kernel
theorem dX10_init_101 : decode cX10_init 101 = .ok (.iconst 0, 1) := by decide +kernel
theorem dX10_init_102 : decode cX10_init 102 = .ok (.bipush 26, 2) := by decide +kernel
theorem dX10_init_104 : decode cX10_init 104 = .ok (.bastore, 1) := by decide +kernel
theorem dX10_init_105 : decode cX10_init 105 = .ok (.dup, 1) := by decide +kernel
theorem dX10_init_106 : decode cX10_init 106 = .ok (.iconst 1, 1) := by decide +kernel
theorem dX10_init_107 : decode cX10_init 107 = .ok (.bipush 69, 2) := by decide +kernel
theorem dX10_init_109 : decode cX10_init 109 = .ok (.bastore, 1) := by decide +kernel
theorem dX10_init_110 : decode cX10_init 110 = .ok (.dup, 1) := by decide +kernel
theorem dX10_init_111 : decode cX10_init 111 = .ok (.iconst 2, 1) := by decide +kernel
theorem dX10_init_112 : decode cX10_init 112 = .ok (.bipush (-33), 2) := by decide +kernel
theorem dX10_init_114 : decode cX10_init 114 = .ok (.bastore, 1) := by decide +kernel
theorem dX10_init_115 : decode cX10_init 115 = .ok (.dup, 1) := by decide +kernel
theorem dX10_init_116 : decode cX10_init 116 = .ok (.iconst 3, 1) := by decide +kernel
theorem dX10_init_117 : decode cX10_init 117 = .ok (.bipush (-93), 2) := by decide +kernel
theorem dX10_init_119 : decode cX10_init 119 = .ok (.bastore, 1) := by decide +kernel
theorem dX10_init_120 : decode cX10_init 120 = .ok (.dup, 1) := by decide +kernel
theorem dX10_init_121 : decode cX10_init 121 = .ok (.iconst 4, 1) := by decide +kernel
theorem dX10_init_122 : decode cX10_init 122 = .ok (.bipush (-93), 2) := by decide +kernel
theorem dX10_init_124 : decode cX10_init 124 = .ok (.bastore, 1) := by decide +kernel
theorem dX10_init_125 : decode cX10_init 125 = .ok (.dup, 1) := by decide +kernel
theorem dX10_init_126 : decode cX10_init 126 = .ok (.iconst 5, 1) := by decide +kernel
theorem dX10_init_127 : decode cX10_init 127 = .ok (.bipush 66, 2) := by decide +kernel
theorem dX10_init_129 : decode cX10_init 129 = .ok (.bastore, 1) := by decide +kernel
theorem dX10_init_130 : decode cX10_init 130 = .ok (.dup, 1) := by decide +kernel
theorem dX10_init_131 : decode cX10_init 131 = .ok (.bipush 6, 2) := by decide +kernel
theorem dX10_init_133 : decode cX10_init 133 = .ok (.bipush (-122), 2) := by decide +kernel
theorem dX10_init_135 : decode cX10_init 135 = .ok (.bastore, 1) := by decide +kernel
theorem dX10_init_136 : decode cX10_init 136 = .ok (.dup, 1) := by decide +kernel
theorem dX10_init_137 : decode cX10_init 137 = .ok (.bipush 7, 2) := by decide +kernel
theorem dX10_init_139 : decode cX10_init 139 = .ok (.bipush (-127), 2) := by decide +kernel
theorem dX10_init_141 : decode cX10_init 141 = .ok (.bastore, 1) := by decide +kernel
theorem dX10_init_142 : decode cX10_init 142 = .ok (.dup, 1) := by decide +kernel
theorem dX10_init_143 : decode cX10_init 143 = .ok (.bipush 8, 2) := by decide +kernel
theorem dX10_init_145 : decode cX10_init 145 = .ok (.iconst 1, 1) := by decide +kernel
theorem dX10_init_146 : decode cX10_init 146 = .ok (.bastore, 1) := by decide +kernel
theorem dX10_init_147 : decode cX10_init 147 = .ok (.dup, 1) := by decide +kernel
theorem dX10_init_148 : decode cX10_init 148 = .ok (.bipush 9, 2) := by decide +kernel
theorem dX10_init_150 : decode cX10_init 150 = .ok (.bipush 66, 2) := by decide +kernel
theorem dX10_init_152 : decode cX10_init 152 = .ok (.bastore, 1) := by decide +kernel
theorem dX10_init_153 : decode cX10_init 153 = .ok (.dup, 1) := by decide +kernel
theorem dX10_init_154 : decode cX10_init 154 = .ok (.bipush 10, 2) := by decide +kernel
theorem dX10_init_156 : decode cX10_init 156 = .ok (.bipush (-9), 2) := by decide +kernel
theorem dX10_init_158 : decode cX10_init 158 = .ok (.bastore, 1) := by decide +kernel
theorem dX10_init_159 : decode cX10_init 159 = .ok (.dup, 1) := by decide +kernel
theorem dX10_init_160 : decode cX10_init 160 = .ok (.bipush 11, 2) := by decide +kernel
theorem dX10_init_162 : decode cX10_init 162 = .ok (.bipush (-127), 2) := by decide +kernel
theorem dX10_init_164 : decode cX10_init 164 = .ok (.bastore, 1) := by decide +kernel
theorem dX10_init_165 : decode cX10_init 165 = .ok (.dup, 1) := by decide +kernel
theorem dX10_init_166 : decode cX10_init 166 = .ok (.bipush 12, 2) := by decide +kernel
theorem dX10_init_168 : decode cX10_init 168 = .ok (.iconst 1, 1) := by decide +kernel
theorem dX10_init_169 : decode cX10_init 169 = .ok (.bastore, 1) := by decide +kernel
theorem dX10_init_170 : decode cX10_init 170 = .ok (.dup, 1) := by decide +kernel
theorem dX10_init_171 : decode cX10_init 171 = .ok (.bipush 13, 2) := by decide +kernel
theorem dX10_init_173 : decode cX10_init 173 = .ok (.bipush 66, 2) := by decide +kernel
theorem dX10_init_175 : decode cX10_init 175 = .ok (.bastore, 1) := by decide +kernel
theorem dX10_init_176 : decode cX10_init 176 = .ok (.dup, 1) := by decide +kernel
theorem dX10_init_177 : decode cX10_init 177 = .ok (.bipush 14, 2) := by decide +kernel
theorem dX10_init_179 : decode cX10_init 179 = .ok (.bipush (-14), 2) := by decide +kernel
theorem dX10_init_181 : decode cX10_init 181 = .ok (.bastore, 1) := by decide +kernel
theorem dX10_init_182 : decode cX10_init 182 = .ok (.dup, 1) := by decide +kernel
theorem dX10_init_183 : decode cX10_init 183 = .ok (.bipush 15, 2) := by decide +kernel
theorem dX10_init_185 : decode cX10_init 185 = .ok (.bipush (-127), 2) := by decide +kernel
theorem dX10_init_187 : decode cX10_init 187 = .ok (.bastore, 1) := by decide +kernel
theorem dX10_init_188 : decode cX10_init 188 = .ok (.dup, 1) := by decide +kernel
theorem dX10_init_189 : decode cX10_init 189 = .ok (.bipush 16, 2) := by decide +kernel
theorem dX10_init_191 : decode cX10_init 191 = .ok (.iconst 4, 1) := by decide +kernel
theorem dX10_init_192 : decode cX10_init 192 = .ok (.bastore, 1) := by decide +kernel
theorem dX10_init_193 : decode cX10_init 193 = .ok (.dup, 1) := by decide +kernel
theorem dX10_init_194 : decode cX10_init 194 = .ok (.bipush 17, 2) := by decide +kernel
theorem dX10_init_196 : decode cX10_init 196 = .ok (.bipush 66, 2) := by decide +kernel
theorem dX10_init_198 : decode cX10_init 198 = .ok (.bastore, 1) := by decide +kernel
theorem dX10_init_199 : decode cX10_init 199 = .ok (.dup, 1) := by decide +kernel
theorem dX10_init_200 : decode cX10_init 200 = .ok (.bipush 18, 2) := by decide +kernel
theorem dX10_init_202 : decode cX10_init 202 = .ok (.bipush (-13), 2) := by decide +kernel
theorem dX10_init_204 : decode cX10_init 204 = .ok (.bastore, 1) := by decide +kernel
theorem dX10_init_205 : decode cX10_init 205 = .ok (.dup, 1) := by decide +kernel
theorem dX10_init_206 : decode cX10_init 206 = .ok (.bipush 19, 2) := by decide +kernel
theorem dX10_init_208 : decode cX10_init 208 = .ok (.bipush (-127), 2) := by decide +kernel
theorem dX10_init_210 : decode cX10_init 210 = .ok (.bastore, 1) := by decide +kernel
theorem dX10_init_211 : decode cX10_init 211 = .ok (.dup, 1) := by decide +kernel
theorem dX10_init_212 : decode cX10_init 212 = .ok (.bipush 20, 2) := by decide +kernel
theorem dX10_init_214 : decode cX10_init 214 = .ok (.bipush 8, 2) := by decide +kernel
theorem dX10_init_216 : decode cX10_init 216 = .ok (.bastore, 1) := by decide +kernel
theorem dX10_init_217 : decode cX10_init 217 = .ok (.dup, 1) := by decide +kernel
theorem dX10_init_218 : decode cX10_init 218 = .ok (.bipush 21, 2) := by decide +kernel
theorem dX10_init_220 : decode cX10_init 220 = .ok (.bipush 66, 2) := by decide +kernel
theorem dX10_init_222 : decode cX10_init 222 = .ok (.bastore, 1) := by decide +kernel
theorem dX10_init_223 : decode cX10_init 223 = .ok (.dup, 1) := by decide +kernel
theorem dX10_init_224 : decode cX10_init 224 = .ok (.bipush 22, 2) := by decide +kernel
theorem dX10_init_226 : decode cX10_init 226 = .ok (.bipush (-126), 2) := by decide +kernel
theorem dX10_init_228 : decode cX10_init 228 = .ok (.bastore, 1) := by decide +kernel
theorem dX10_init_229 : decode cX10_init 229 = .ok (.dup, 1) := by decide +kernel
theorem dX10_init_230 : decode cX10_init 230 = .ok (.bipush 23, 2) := by decide +kernel
theorem dX10_init_232 : decode cX10_init 232 = .ok (.bipush (-120), 2) := by decide +kernel
theorem dX10_init_234 : decode cX10_init 234 = .ok (.bastore, 1) := by decide +kernel
theorem dX10_init_235 : decode cX10_init 235 = .ok (.dup, 1) := by decide +kernel
theorem dX10_init_236 : decode cX10_init 236 = .ok (.bipush 24, 2) := by decide +kernel
theorem dX10_init_238 : decode cX10_init 238 = .ok (.bipush 109, 2) := by decide +kernel
theorem dX10_init_240 : decode cX10_init 240 = .ok (.bastore, 1) := by decide +kernel
theorem dX10_init_241 : decode cX10_init 241 = .ok (.dup, 1) := by decide +kernel
theorem dX10_init_242 : decode cX10_init 242 = .ok (.bipush 25, 2) := by decide +kernel
theorem dX10_init_244 : decode cX10_init 244 = .ok (.bipush 97, 2) := by decide +kernel
theorem dX10_init_246 : decode cX10_init 246 = .ok (.bastore, 1) := by decide +kernel
theorem dX10_init_247 : decode cX10_init 247 = .ok (.dup, 1) := by decide +kernel
theorem dX10_init_248 : decode cX10_init 248 = .ok (.bipush 26, 2) := by decide +kernel
theorem dX10_init_250 : decode cX10_init 250 = .ok (.bipush 116, 2) := by decide +kernel
theorem dX10_init_252 : decode cX10_init 252 = .ok (.bastore, 1) := by decide +kernel
theorem dX10_init_253 : decode cX10_init 253 = .ok (.dup, 1) := by decide +kernel
theorem dX10_init_254 : decode cX10_init 254 = .ok (.bipush 27, 2) := by decide +kernel
theorem dX10_init_256 : decode cX10_init 256 = .ok (.bipush 114, 2) := by decide +kernel
theorem dX10_init_258 : decode cX10_init 258 = .ok (.bastore, 1) := by decide +kernel
theorem dX10_init_259 : decode cX10_init 259 = .ok (.dup, 1) := by decide +kernel
theorem dX10_init_260 : decode cX10_init 260 = .ok (.bipush 28, 2) := by decide +kernel
theorem dX10_init_262 : decode cX10_init 262 = .ok (.bipush 111, 2) := by decide +kernel
theorem dX10_init_264 : decode cX10_init 264 = .ok (.bastore, 1) := by decide +kernel
theorem dX10_init_265 : decode cX10_init 265 = .ok (.dup, 1) := by decide +kernel
theorem dX10_init_266 : decode cX10_init 266 = .ok (.bipush 29, 2) := by decide +kernel
theorem dX10_init_268 : decode cX10_init 268 = .ok (.bipush 115, 2) := by decide +kernel
theorem dX10_init_270 : decode cX10_init 270 = .ok (.bastore, 1) := by decide +kernel
theorem dX10_init_271 : decode cX10_init 271 = .ok (.dup, 1) := by decide +kernel
theorem dX10_init_272 : decode cX10_init 272 = .ok (.bipush 30, 2) := by decide +kernel
theorem dX10_init_274 : decode cX10_init 274 = .ok (.bipush 107, 2) := by decide +kernel
theorem dX10_init_276 : decode cX10_init 276 = .ok (.bastore, 1) := by decide +kernel
theorem dX10_init_277 : decode cX10_init 277 = .ok (.dup, 1) := by decide +kernel
theorem dX10_init_278 : decode cX10_init 278 = .ok (.bipush 31, 2) := by decide +kernel
theorem dX10_init_280 : decode cX10_init 280 = .ok (.bipush 97, 2) := by decide +kernel
theorem dX10_init_282 : decode cX10_init 282 = .ok (.bastore, 1) := by decide +kernel
theorem dX10_init_283 : decode cX10_init 283 = .ok (.dup, 1) := by decide +kernel
theorem dX10_init_284 : decode cX10_init 284 = .ok (.bipush 32, 2) := by decide +kernel
theorem dX10_init_286 : decode cX10_init 286 = .ok (.bipush 66, 2) := by decide +kernel
theorem dX10_init_288 : decode cX10_init 288 = .ok (.bastore, 1) := by decide +kernel
theorem dX10_init_289 : decode cX10_init 289 = .ok (.dup, 1) := by decide +kernel
theorem dX10_init_290 : decode cX10_init 290 = .ok (.bipush 33, 2) := by decide +kernel
theorem dX10_init_292 : decode cX10_init 292 = .ok (.bipush (-121), 2) := by decide +kernel
theorem dX10_init_294 : decode cX10_init 294 = .ok (.bastore, 1) := by decide +kernel
theorem dX10_init_295 : decode cX10_init 295 = .ok (.dup, 1) := by decide +kernel
theorem dX10_init_296 : decode cX10_init 296 = .ok (.bipush 34, 2) := by decide +kernel
theorem dX10_init_298 : decode cX10_init 298 = .ok (.bipush (-127), 2) := by decide +kernel
theorem dX10_init_300 : decode cX10_init 300 = .ok (.bastore, 1) := by decide +kernel
theorem dX10_init_301 : decode cX10_init 301 = .ok (.dup, 1) := by decide +kernel
theorem dX10_init_302 : decode cX10_init 302 = .ok (.bipush 35, 2) := by decide +kernel
theorem dX10_init_304 : decode cX10_init 304 = .ok (.iconst 4, 1) := by decide +kernel
theorem dX10_init_305 : decode cX10_init 305 = .ok (.bastore, 1) := by decide +kernel
theorem dX10_init_306 : decode cX10_init 306 = .ok (.dup, 1) := by decide +kernel
theorem dX10_init_307 : decode cX10_init 307 = .ok (.bipush 36, 2) := by decide +kernel
theorem dX10_init_309 : decode cX10_init 309 = .ok (.bipush 66, 2) := by decide +kernel
theorem dX10_init_311 : decode cX10_init 311 = .ok (.bastore, 1) := by decide +kernel
theorem dX10_init_312 : decode cX10_init 312 = .ok (.dup, 1) := by decide +kernel
theorem dX10_init_313 : decode cX10_init 313 = .ok (.bipush 37, 2) := by decide +kernel
theorem dX10_init_315 : decode cX10_init 315 = .ok (.bipush (-123), 2) := by decide +kernel
theorem dX10_init_317 : decode cX10_init 317 = .ok (.bastore, 1) := by decide +kernel
theorem dX10_init_318 : decode cX10_init 318 = .ok (.dup, 1) := by decide +kernel
theorem dX10_init_319 : decode cX10_init 319 = .ok (.bipush 38, 2) := by decide +kernel
theorem dX10_init_321 : decode cX10_init 321 = .ok (.bipush (-127), 2) := by decide +kernel
theorem dX10_init_323 : decode cX10_init 323 = .ok (.bastore, 1) := by decide +kernel
theorem dX10_init_324 : decode cX10_init 324 = .ok (.dup, 1) := by decide +kernel
theorem dX10_init_325 : decode cX10_init 325 = .ok (.bipush 39, 2) := by decide +kernel
theorem dX10_init_327 : decode cX10_init 327 = .ok (.iconst 2, 1) := by decide +kernel
theorem dX10_init_328 : decode cX10_init 328 = .ok (.bastore, 1) := by decide +kernel
theorem dX10_init_329 : decode cX10_init 329 = .ok (.putfield 46, 3) := by decide +kernel
theorem dX10_init_332 : decode cX10_init 332 = .ok (.aload_n 0, 1) := by decide +kernel
theorem dX10_init_333 : decode cX10_init 333 = .ok (.bipush 20, 2) := by decide +kernel
theorem dX10_init_335 : decode cX10_init 335 = .ok (.newarray .byte, 2) := by decide +kernel
theorem dX10_init_337 : decode cX10_init 337 = .ok (.dup, 1) := by decide +kernel
theorem dX10_init_338 : decode cX10_init 338 = .ok (.iconst 0, 1) := by decide +kernel
theorem dX10_init_339 : decode cX10_init 339 = .ok (.bipush 21, 2) := by decide +kernel
theorem dX10_init_341 : decode cX10_init 341 = .ok (.bastore, 1) := by decide +kernel
theorem dX10_init_342 : decode cX10_init 342 = .ok (.dup, 1) := by decide +kernel
theorem dX10_init_343 : decode cX10_init 343 = .ok (.iconst 1, 1) := by decide +kernel
theorem dX10_init_344 : decode cX10_init 344 = .ok (.bipush 73, 2) := by decide +kernel
theorem dX10_init_346 : decode cX10_init 346 = .ok (.bastore, 1) := by decide +kernel
theorem dX10_init_347 : decode cX10_init 347 = .ok (.dup, 1) := by decide +kernel
theorem dX10_init_348 : decode cX10_init 348 = .ok (.iconst 2, 1) := by decide +kernel
theorem dX10_init_349 : decode cX10_init 349 = .ok (.bipush (-87), 2) := by decide +kernel
theorem dX10_init_351 : decode cX10_init 351 = .ok (.bastore, 1) := by decide +kernel
theorem dX10_init_352 : decode cX10_init 352 = .ok (.dup, 1) := by decide +kernel
theorem dX10_init_353 : decode cX10_init 353 = .ok (.iconst 3, 1) := by decide +kernel
theorem dX10_init_354 : decode cX10_init 354 = .ok (.bipush 102, 2) := by decide +kernel
theorem dX10_init_356 : decode cX10_init 356 = .ok (.bastore, 1) := by decide +kernel
theorem dX10_init_357 : decode cX10_init 357 = .ok (.dup, 1) := by decide +kernel
theorem dX10_init_358 : decode cX10_init 358 = .ok (.iconst 4, 1) := by decide +kernel
theorem dX10_init_359 : decode cX10_init 359 = .ok (.bipush (-113), 2) := by decide +kernel
theorem dX10_init_361 : decode cX10_init 361 = .ok (.bastore, 1) := by decide +kernel
theorem dX10_init_362 : decode cX10_init 362 = .ok (.dup, 1) := by decide +kernel
theorem dX10_init_363 : decode cX10_init 363 = .ok (.iconst 5, 1) := by decide +kernel
theorem dX10_init_364 : decode cX10_init 364 = .ok (.bipush 42, 2) := by decide +kernel
theorem dX10_init_366 : decode cX10_init 366 = .ok (.bastore, 1) := by decide +kernel
theorem dX10_init_367 : decode cX10_init 367 = .ok (.dup, 1) := by decide +kernel
theorem dX10_init_368 : decode cX10_init 368 = .ok (.bipush 6, 2) := by decide +kernel
theorem dX10_init_370 : decode cX10_init 370 = .ok (.bipush (-41), 2) := by decide +kernel
theorem dX10_init_372 : decode cX10_init 372 = .ok (.bastore, 1) := by decide +kernel
theorem dX10_init_373 : decode cX10_init 373 = .ok (.dup, 1) := by decide +kernel
theorem dX10_init_374 : decode cX10_init 374 = .ok (.bipush 7, 2) := by decide +kernel
theorem dX10_init_376 : decode cX10_init 376 = .ok (.bipush (-79), 2) := by decide +kernel
theorem dX10_init_378 : decode cX10_init 378 = .ok (.bastore, 1) := by decide +kernel
theorem dX10_init_379 : decode cX10_init 379 = .ok (.dup, 1) := by decide +kernel
theorem dX10_init_380 : decode cX10_init 380 = .ok (.bipush 8, 2) := by decide +kernel
theorem dX10_init_382 : decode cX10_init 382 = .ok (.bipush (-125), 2) := by decide +kernel
theorem dX10_init_384 : decode cX10_init 384 = .ok (.bastore, 1) := by decide +kernel
theorem dX10_init_385 : decode cX10_init 385 = .ok (.dup, 1) := by decide +kernel
theorem dX10_init_386 : decode cX10_init 386 = .ok (.bipush 9, 2) := by decide +kernel
theorem dX10_init_388 : decode cX10_init 388 = .ok (.bipush 15, 2) := by decide +kernel
theorem dX10_init_390 : decode cX10_init 390 = .ok (.bastore, 1) := by decide +kernel
theorem dX10_init_391 : decode cX10_init 391 = .ok (.dup, 1) := by decide +kernel
theorem dX10_init_392 : decode cX10_init 392 = .ok (.bipush 10, 2) := by decide +kernel
theorem dX10_init_394 : decode cX10_init 394 = .ok (.bipush 66, 2) := by decide +kernel
theorem dX10_init_396 : decode cX10_init 396 = .ok (.bastore, 1) := by decide +kernel
theorem dX10_init_397 : decode cX10_init 397 = .ok (.dup, 1) := by decide +kernel
theorem dX10_init_398 : decode cX10_init 398 = .ok (.bipush 11, 2) := by decide +kernel
theorem dX10_init_400 : decode cX10_init 400 = .ok (.bipush 64, 2) := by decide +kernel
theorem dX10_init_402 : decode cX10_init 402 = .ok (.bastore, 1) := by decide +kernel
theorem dX10_init_403 : decode cX10_init 403 = .ok (.dup, 1) := by decide +kernel
theorem dX10_init_404 : decode cX10_init 404 = .ok (.bipush 12, 2) := by decide +kernel
theorem dX10_init_406 : decode cX10_init 406 = .ok (.bipush 77, 2) := by decide +kernel
theorem dX10_init_408 : decode cX10_init 408 = .ok (.bastore, 1) := by decide +kernel
theorem dX10_init_409 : decode cX10_init 409 = .ok (.dup, 1) := by decide +kernel
theorem dX10_init_410 : decode cX10_init 410 = .ok (.bipush 13, 2) := by decide +kernel
theorem dX10_init_412 : decode cX10_init 412 = .ok (.bipush (-128), 2) := by decide +kernel
theorem dX10_init_414 : decode cX10_init 414 = .ok (.bastore, 1) := by decide +kernel
theorem dX10_init_415 : decode cX10_init 415 = .ok (.dup, 1) := by decide +kernel
theorem dX10_init_416 : decode cX10_init 416 = .ok (.bipush 14, 2) := by decide +kernel
theorem dX10_init_418 : decode cX10_init 418 = .ok (.bipush (-127), 2) := by decide +kernel
theorem dX10_init_420 : decode cX10_init 420 = .ok (.bastore, 1) := by decide +kernel
theorem dX10_init_421 : decode cX10_init 421 = .ok (.dup, 1) := by decide +kernel
theorem dX10_init_422 : decode cX10_init 422 = .ok (.bipush 15, 2) := by decide +kernel
theorem dX10_init_424 : decode cX10_init 424 = .ok (.bipush 97, 2) := by decide +kernel
theorem dX10_init_426 : decode cX10_init 426 = .ok (.bastore, 1) := by decide +kernel
theorem dX10_init_427 : decode cX10_init 427 = .ok (.dup, 1) := by decide +kernel
theorem dX10_init_428 : decode cX10_init 428 = .ok (.bipush 16, 2) := by decide +kernel
theorem dX10_init_430 : decode cX10_init 430 = .ok (.bipush 87, 2) := by decide +kernel
theorem dX10_init_432 : decode cX10_init 432 = .ok (.bastore, 1) := by decide +kernel
theorem dX10_init_433 : decode cX10_init 433 = .ok (.dup, 1) := by decide +kernel
theorem dX10_init_434 : decode cX10_init 434 = .ok (.bipush 17, 2) := by decide +kernel
theorem dX10_init_436 : decode cX10_init 436 = .ok (.bipush 65, 2) := by decide +kernel
theorem dX10_init_438 : decode cX10_init 438 = .ok (.bastore, 1) := by decide +kernel
theorem dX10_init_439 : decode cX10_init 439 = .ok (.dup, 1) := by decide +kernel
theorem dX10_init_440 : decode cX10_init 440 = .ok (.bipush 18, 2) := by decide +kernel
theorem dX10_init_442 : decode cX10_init 442 = .ok (.bipush (-127), 2) := by decide +kernel
theorem dX10_init_444 : decode cX10_init 444 = .ok (.bastore, 1) := by decide +kernel
theorem dX10_init_445 : decode cX10_init 445 = .ok (.dup, 1) := by decide +kernel
theorem dX10_init_446 : decode cX10_init 446 = .ok (.bipush 19, 2) := by decide +kernel
theorem dX10_init_448 : decode cX10_init 448 = .ok (.bipush 97, 2) := by decide +kernel
theorem dX10_init_450 : decode cX10_init 450 = .ok (.bastore, 1) := by decide +kernel
theorem dX10_init_451 : decode cX10_init 451 = .ok (.putfield 49, 3) := by decide +kernel
theorem dX10_init_454 : decode cX10_init 454 = .ok (.aload_n 0, 1) := by decide +kernel
theorem dX10_init_455 : decode cX10_init 455 = .ok (.bipush 19, 2) := by decide +kernel
theorem dX10_init_457 : decode cX10_init 457 = .ok (.newarray .byte, 2) := by decide +kernel
theorem dX10_init_459 : decode cX10_init 459 = .ok (.dup, 1) := by decide +kernel
theorem dX10_init_460 : decode cX10_init 460 = .ok (.iconst 0, 1) := by decide +kernel
theorem dX10_init_461 : decode cX10_init 461 = .ok (.bipush 22, 2) := by decide +kernel
theorem dX10_init_463 : decode cX10_init 463 = .ok (.bastore, 1) := by decide +kernel
theorem dX10_init_464 : decode cX10_init 464 = .ok (.dup, 1) := by decide +kernel
theorem dX10_init_465 : decode cX10_init 465 = .ok (.iconst 1, 1) := by decide +kernel
theorem dX10_init_466 : decode cX10_init 466 = .ok (.bipush 84, 2) := by decide +kernel
theorem dX10_init_468 : decode cX10_init 468 = .ok (.bastore, 1) := by decide +kernel
theorem dX10_init_469 : decode cX10_init 469 = .ok (.dup, 1) := by decide +kernel
theorem dX10_init_470 : decode cX10_init 470 = .ok (.iconst 2, 1) := by decide +kernel
theorem dX10_init_471 : decode cX10_init 471 = .ok (.bipush (-82), 2) := by decide +kernel
theorem dX10_init_473 : decode cX10_init 473 = .ok (.bastore, 1) := by decide +kernel
theorem dX10_init_474 : decode cX10_init 474 = .ok (.dup, 1) := by decide +kernel
theorem dX10_init_475 : decode cX10_init 475 = .ok (.iconst 3, 1) := by decide +kernel
theorem dX10_init_476 : decode cX10_init 476 = .ok (.bipush 107, 2) := by decide +kernel
theorem dX10_init_478 : decode cX10_init 478 = .ok (.bastore, 1) := by decide +kernel
theorem dX10_init_479 : decode cX10_init 479 = .ok (.dup, 1) := by decide +kernel
theorem dX10_init_480 : decode cX10_init 480 = .ok (.iconst 4, 1) := by decide +kernel
theorem dX10_init_481 : decode cX10_init 481 = .ok (.bipush (-105), 2) := by decide +kernel
theorem dX10_init_483 : decode cX10_init 483 = .ok (.bastore, 1) := by decide +kernel
theorem dX10_init_484 : decode cX10_init 484 = .ok (.dup, 1) := by decide +kernel
theorem dX10_init_485 : decode cX10_init 485 = .ok (.iconst 5, 1) := by decide +kernel
theorem dX10_init_486 : decode cX10_init 486 = .ok (.bipush (-82), 2) := by decide +kernel
theorem dX10_init_488 : decode cX10_init 488 = .ok (.bastore, 1) := by decide +kernel
theorem dX10_init_489 : decode cX10_init 489 = .ok (.dup, 1) := by decide +kernel
theorem dX10_init_490 : decode cX10_init 490 = .ok (.bipush 6, 2) := by decide +kernel
theorem dX10_init_492 : decode cX10_init 492 = .ok (.bipush (-107), 2) := by decide +kernel
theorem dX10_init_494 : decode cX10_init 494 = .ok (.bastore, 1) := by decide +kernel
theorem dX10_init_495 : decode cX10_init 495 = .ok (.dup, 1) := by decide +kernel
theorem dX10_init_496 : decode cX10_init 496 = .ok (.bipush 7, 2) := by decide +kernel
theorem dX10_init_498 : decode cX10_init 498 = .ok (.bipush (-41), 2) := by decide +kernel
theorem dX10_init_500 : decode cX10_init 500 = .ok (.bastore, 1) := by decide +kernel
theorem dX10_init_501 : decode cX10_init 501 = .ok (.dup, 1) := by decide +kernel
theorem dX10_init_502 : decode cX10_init 502 = .ok (.bipush 8, 2) := by decide +kernel
theorem dX10_init_504 : decode cX10_init 504 = .ok (.bipush (-127), 2) := by decide +kernel
theorem dX10_init_506 : decode cX10_init 506 = .ok (.bastore, 1) := by decide +kernel
theorem dX10_init_507 : decode cX10_init 507 = .ok (.dup, 1) := by decide +kernel
theorem dX10_init_508 : decode cX10_init 508 = .ok (.bipush 9, 2) := by decide +kernel
theorem dX10_init_510 : decode cX10_init 510 = .ok (.iconst 1, 1) := by decide +kernel
theorem dX10_init_511 : decode cX10_init 511 = .ok (.bastore, 1) := by decide +kernel
theorem dX10_init_512 : decode cX10_init 512 = .ok (.dup, 1) := by decide +kernel
theorem dX10_init_513 : decode cX10_init 513 = .ok (.bipush 10, 2) := by decide +kernel
theorem dX10_init_515 : decode cX10_init 515 = .ok (.bipush 115, 2) := by decide +kernel
theorem dX10_init_517 : decode cX10_init 517 = .ok (.bastore, 1) := by decide +kernel
theorem dX10_init_518 : decode cX10_init 518 = .ok (.dup, 1) := by decide +kernel
theorem dX10_init_519 : decode cX10_init 519 = .ok (.bipush 11, 2) := by decide +kernel
theorem dX10_init_521 : decode cX10_init 521 = .ok (.bipush (-59), 2) := by decide +kernel
theorem dX10_init_523 : decode cX10_init 523 = .ok (.bastore, 1) := by decide +kernel
theorem dX10_init_524 : decode cX10_init 524 = .ok (.dup, 1) := by decide +kernel
theorem dX10_init_525 : decode cX10_init 525 = .ok (.bipush 12, 2) := by decide +kernel
theorem dX10_init_527 : decode cX10_init 527 = .ok (.bipush (-127), 2) := by decide +kernel
theorem dX10_init_529 : decode cX10_init 529 = .ok (.bastore, 1) := by decide +kernel
theorem dX10_init_530 : decode cX10_init 530 = .ok (.dup, 1) := by decide +kernel
theorem dX10_init_531 : decode cX10_init 531 = .ok (.bipush 13, 2) := by decide +kernel
theorem dX10_init_533 : decode cX10_init 533 = .ok (.iconst 1, 1) := by decide +kernel
theorem dX10_init_534 : decode cX10_init 534 = .ok (.bastore, 1) := by decide +kernel
theorem dX10_init_535 : decode cX10_init 535 = .ok (.dup, 1) := by decide +kernel
theorem dX10_init_536 : decode cX10_init 536 = .ok (.bipush 14, 2) := by decide +kernel
theorem dX10_init_538 : decode cX10_init 538 = .ok (.bipush (-125), 2) := by decide +kernel
theorem dX10_init_540 : decode cX10_init 540 = .ok (.bastore, 1) := by decide +kernel
theorem dX10_init_541 : decode cX10_init 541 = .ok (.dup, 1) := by decide +kernel
theorem dX10_init_542 : decode cX10_init 542 = .ok (.bipush 15, 2) := by decide +kernel
theorem dX10_init_544 : decode cX10_init 544 = .ok (.bipush (-127), 2) := by decide +kernel
theorem dX10_init_546 : decode cX10_init 546 = .ok (.bastore, 1) := by decide +kernel
theorem dX10_init_547 : decode cX10_init 547 = .ok (.dup, 1) := by decide +kernel
theorem dX10_init_548 : decode cX10_init 548 = .ok (.bipush 16, 2) := by decide +kernel
theorem dX10_init_550 : decode cX10_init 550 = .ok (.iconst 2, 1) := by decide +kernel
theorem dX10_init_551 : decode cX10_init 551 = .ok (.bastore, 1) := by decide +kernel
theorem dX10_init_552 : decode cX10_init 552 = .ok (.dup, 1) := by decide +kernel
theorem dX10_init_553 : decode cX10_init 553 = .ok (.bipush 17, 2) := by decide +kernel
theorem dX10_init_555 : decode cX10_init 555 = .ok (.bipush (-100), 2) := by decide +kernel
theorem dX10_init_557 : decode cX10_init 557 = .ok (.bastore, 1) := by decide +kernel
theorem dX10_init_558 : decode cX10_init 558 = .ok (.dup, 1) := by decide +kernel
theorem dX10_init_559 : decode cX10_init 559 = .ok (.bipush 18, 2) := by decide +kernel
theorem dX10_init_561 : decode cX10_init 561 = .ok (.bipush (-127), 2) := by decide +kernel
theorem dX10_init_563 : decode cX10_init 563 = .ok (.bastore, 1) := by decide +kernel
theorem dX10_init_564 : decode cX10_init 564 = .ok (.putfield 52, 3) := by decide +kernel
theorem dX10_init_567 : decode cX10_init 567 = .ok (.aload_n 0, 1) := by decide +kernel
theorem dX10_init_568 : decode cX10_init 568 = .ok (.bipush 8, 2) := by decide +kernel
theorem dX10_init_570 : decode cX10_init 570 = .ok (.newarray .byte, 2) := by decide +kernel
theorem dX10_init_572 : decode cX10_init 572 = .ok (.dup, 1) := by decide +kernel
theorem dX10_init_573 : decode cX10_init 573 = .ok (.iconst 0, 1) := by decide +kernel
theorem dX10_init_574 : decode cX10_init 574 = .ok (.bipush (-122), 2) := by decide +kernel
theorem dX10_init_576 : decode cX10_init 576 = .ok (.bastore, 1) := by decide +kernel
theorem dX10_init_577 : decode cX10_init 577 = .ok (.dup, 1) := by decide +kernel
theorem dX10_init_578 : decode cX10_init 578 = .ok (.iconst 1, 1) := by decide +kernel
theorem dX10_init_579 : decode cX10_init 579 = .ok (.bipush (-122), 2) := by decide +kernel
theorem dX10_init_581 : decode cX10_init 581 = .ok (.bastore, 1) := by decide +kernel
theorem dX10_init_582 : decode cX10_init 582 = .ok (.dup, 1) := by decide +kernel
theorem dX10_init_583 : decode cX10_init 583 = .ok (.iconst 2, 1) := by decide +kernel
theorem dX10_init_584 : decode cX10_init 584 = .ok (.bipush 65, 2) := by decide +kernel
theorem dX10_init_586 : decode cX10_init 586 = .ok (.bastore, 1) := by decide +kernel
theorem dX10_init_587 : decode cX10_init 587 = .ok (.dup, 1) := by decide +kernel
theorem dX10_init_588 : decode cX10_init 588 = .ok (.iconst 3, 1) := by decide +kernel
theorem dX10_init_589 : decode cX10_init 589 = .ok (.bipush 95, 2) := by decide +kernel
theorem dX10_init_591 : decode cX10_init 591 = .ok (.bastore, 1) := by decide +kernel
theorem dX10_init_592 : decode cX10_init 592 = .ok (.dup, 1) := by decide +kernel
theorem dX10_init_593 : decode cX10_init 593 = .ok (.iconst 4, 1) := by decide +kernel
theorem dX10_init_594 : decode cX10_init 594 = .ok (.bipush 79, 2) := by decide +kernel
theorem dX10_init_596 : decode cX10_init 596 = .ok (.bastore, 1) := by decide +kernel
theorem dX10_init_597 : decode cX10_init 597 = .ok (.dup, 1) := by decide +kernel
theorem dX10_init_598 : decode cX10_init 598 = .ok (.iconst 5, 1) := by decide +kernel
theorem dX10_init_599 : decode cX10_init 599 = .ok (.bipush 80, 2) := by decide +kernel
theorem dX10_init_601 : decode cX10_init 601 = .ok (.bastore, 1) := by decide +kernel
theorem dX10_init_602 : decode cX10_init 602 = .ok (.dup, 1) := by decide +kernel
theorem dX10_init_603 : decode cX10_init 603 = .ok (.bipush 6, 2) := by decide +kernel
theorem dX10_init_605 : decode cX10_init 605 = .ok (.bipush 85, 2) := by decide +kernel
theorem dX10_init_607 : decode cX10_init 607 = .ok (.bastore, 1) := by decide +kernel
theorem dX10_init_608 : decode cX10_init 608 = .ok (.dup, 1) := by decide +kernel
theorem dX10_init_609 : decode cX10_init 609 = .ok (.bipush 7, 2) := by decide +kernel
theorem dX10_init_611 : decode cX10_init 611 = .ok (.bipush 83, 2) := by decide +kernel
theorem dX10_init_613 : decode cX10_init 613 = .ok (.bastore, 1) := by decide +kernel
theorem dX10_init_614 : decode cX10_init 614 = .ok (.putfield 55, 3) := by decide +kernel
theorem dX10_init_617 : decode cX10_init 617 = .ok (.return_, 1) := by decide +kernel
set_option maxRecDepth 20000 in
theorem ggX10_feed_X10_four : GoodIn wsX10_feed wsX10_four := goodIn_r _ [6, 7, 1, 8, 9, 10, 11, 12, 13, 14, 15, 16, 17, 18, 19, 20, 21, 22, 23, 24, 25, 26, 27, 28, 29, 30, 31, 32, 33, 34, 35, 36, 37, 38, 39, 40, 41, 42, 43, 44, 45, 46, 47, 48, 49, 50, 51, 52, 53] (by decide +kernel) (by decide +kernel)
set_option maxRecDepth 20000 in
theorem gX10_feed_X10_four : GoodIn wsX10_feed (wsV RX10 61 RX10 yX10_four wsX10_four) := goodIn_app (goodIn_of _ (by decide +kernel)) ggX10_feed_X10_four
theorem dX10_feed_0 : decode cX10_feed 0 = .ok (.aload_n 0, 1) := by decide +kernel
theorem dX10_feed_1 : decode cX10_feed 1 = .ok (.getfield 58, 3) := by decide +kernel
theorem dX10_feed_4 : decode cX10_feed 4 = .ok (.bipush 20, 2) := by decide +kernel
theorem dX10_feed_6 : decode cX10_feed 6 = .ok (.iadd, 1) := by decide +kernel
theorem dX10_feed_7 : decode cX10_feed 7 = .ok (.sipush 6000, 3) := by decide +kernel
theorem dX10_feed_10 : decode cX10_feed 10 = .ok (.if_icmp .le 5, 3) := by decide +kernel
theorem dX10_feed_13 : decode cX10_feed 13 = .ok (.iconst (-1), 1) := by decide +kernel
theorem dX10_feed_14 : decode cX10_feed 14 = .ok (.ireturn, 1) := by decide +kernel
theorem dX10_feed_15 : decode cX10_feed 15 = .ok (.aload_n 0, 1) := by decide +kernel
theorem dX10_feed_16 : decode cX10_feed 16 = .ok (.iload_n 1, 1) := by decide +kernel
theorem dX10_feed_17 : decode cX10_feed 17 = .ok (.invokevirtual 61, 3) := by decide +kernel
theorem dX10_feed_20 : decode cX10_feed 20 = .ok (.aload_n 0, 1) := by decide +kernel
theorem dX10_feed_21 : decode cX10_feed 21 = .ok (.iload_n 2, 1) := by decide +kernel
theorem dX10_feed_22 : decode cX10_feed 22 = .ok (.invokevirtual 61, 3) := by decide +kernel
theorem dX10_feed_25 : decode cX10_feed 25 = .ok (.aload_n 0, 1) := by decide +kernel
theorem dX10_feed_26 : decode cX10_feed 26 = .ok (.iload_n 3, 1) := by decide +kernel
theorem dX10_feed_27 : decode cX10_feed 27 = .ok (.invokevirtual 61, 3) := by decide +kernel
theorem dX10_feed_30 : decode cX10_feed 30 = .ok (.aload_n 0, 1) := by decide +kernel
theorem dX10_feed_31 : decode cX10_feed 31 = .ok (.iload 4, 2) := by decide +kernel
theorem dX10_feed_33 : decode cX10_feed 33 = .ok (.invokevirtual 61, 3) := by decide +kernel
theorem dX10_feed_36 : decode cX10_feed 36 = .ok (.aload_n 0, 1) := by decide +kernel
theorem dX10_feed_37 : decode cX10_feed 37 = .ok (.iload 5, 2) := by decide +kernel
theorem dX10_feed_39 : decode cX10_feed 39 = .ok (.invokevirtual 61, 3) := by decide +kernel
theorem dX10_feed_42 : decode cX10_feed 42 = .ok (.aload_n 0, 1) := by decide +kernel
theorem dX10_feed_43 : decode cX10_feed 43 = .ok (.getfield 58, 3) := by decide +kernel
theorem dX10_feed_46 : decode cX10_feed 46 = .ok (.ireturn, 1) := by decide +kernel
theorem dX10_four_0 : decode cX10_four 0 = .ok (.bipush 24, 2) := by decide +kernel
theorem dX10_four_2 : decode cX10_four 2 = .ok (.istore_n 2, 1) := by decide +kernel
theorem dX10_four_3 : decode cX10_four 3 = .ok (.iload_n 2, 1) := by decide +kernel
theorem dX10_four_4 : decode cX10_four 4 = .ok (.ifCond .lt 32, 3) := by decide +kernel
theorem dX10_four_7 : decode cX10_four 7 = .ok (.aload_n 0, 1) := by decide +kernel
theorem dX10_four_8 : decode cX10_four 8 = .ok (.getfield 7, 3) := by decide +kernel
theorem dX10_four_11 : decode cX10_four 11 = .ok (.aload_n 0, 1) := by decide +kernel
theorem dX10_four_12 : decode cX10_four 12 = .ok (.getfield 58, 3) := by decide +kernel
theorem dX10_four_15 : decode cX10_four 15 = .ok (.iload_n 1, 1) := by decide +kernel
theorem dX10_four_16 : decode cX10_four 16 = .ok (.iload_n 2, 1) := by decide +kernel
theorem dX10_four_17 : decode cX10_four 17 = .ok (.ishr, 1) := by decide +kernel
theorem dX10_four_18 : decode cX10_four 18 = .ok (.i2b, 1) := by decide +kernel
theorem dX10_four_19 : decode cX10_four 19 = .ok (.bastore, 1) := by decide +kernel
theorem dX10_four_20 : decode cX10_four 20 = .ok (.aload_n 0, 1) := by decide +kernel
theorem dX10_four_21 : decode cX10_four 21 = .ok (.dup, 1) := by decide +kernel
theorem dX10_four_22 : decode cX10_four 22 = .ok (.getfield 58, 3) := by decide +kernel
theorem dX10_four_25 : decode cX10_four 25 = .ok (.iconst 1, 1) := by decide +kernel
theorem dX10_four_26 : decode cX10_four 26 = .ok (.iadd, 1) := by decide +kernel
theorem dX10_four_27 : decode cX10_four 27 = .ok (.putfield 58, 3) := by decide +kernel
theorem dX10_four_30 : decode cX10_four 30 = .ok (.iinc 2 (-8), 3) := by decide +kernel
theorem dX10_four_33 : decode cX10_four 33 = .ok (.goto (-30), 3) := by decide +kernel
theorem dX10_four_36 : decode cX10_four 36 = .ok (.return_, 1) := by decide +kernel
theorem dX10_at_0 : decode cX10_at 0 = .ok (.aload_n 0, 1) := by decide +kernel
theorem dX10_at_1 : decode cX10_at 1 = .ok (.getfield 7, 3) := by decide +kernel
theorem dX10_at_4 : decode cX10_at 4 = .ok (.iload_n 1, 1) := by decide +kernel
theorem dX10_at_5 : decode cX10_at 5 = .ok (.baload, 1) := by decide +kernel
theorem dX10_at_6 : decode cX10_at 6 = .ok (.sipush 255, 3) := by decide +kernel
theorem dX10_at_9 : decode cX10_at 9 = .ok (.iand, 1) := by decide +kernel
theorem dX10_at_10 : decode cX10_at 10 = .ok (.ireturn, 1) := by decide +kernel
theorem dX10_packet_0 : decode cX10_packet 0 = .ok (.iload_n 1, 1) := by decide +kernel
theorem dX10_packet_1 : decode cX10_packet 1 = .ok (.ifCond .lt 27, 3) := by decide +kernel
theorem dX10_packet_4 : decode cX10_packet 4 = .ok (.iload_n 1, 1) := by decide +kernel
theorem dX10_packet_5 : decode cX10_packet 5 = .ok (.aload_n 0, 1) := by decide +kernel
theorem dX10_packet_6 : decode cX10_packet 6 = .ok (.getfield 58, 3) := by decide +kernel
theorem dX10_packet_9 : decode cX10_packet 9 = .ok (.if_icmp .gt 19, 3) := by decide +kernel
theorem dX10_packet_12 : decode cX10_packet 12 = .ok (.lload_n 2, 1) := by decide +kernel
theorem dX10_packet_13 : decode cX10_packet 13 = .ok (.ldc2_w 65, 3) := by decide +kernel
theorem dX10_packet_16 : decode cX10_packet 16 = .ok (.lcmp, 1) := by decide +kernel
theorem dX10_packet_17 : decode cX10_packet 17 = .ok (.ifCond .lt 11, 3) := by decide +kernel
theorem dX10_packet_20 : decode cX10_packet 20 = .ok (.lload_n 2, 1) := by decide +kernel
theorem dX10_packet_21 : decode cX10_packet 21 = .ok (.ldc2_w 67, 3) := by decide +kernel
theorem dX10_packet_24 : decode cX10_packet 24 = .ok (.lcmp, 1) := by decide +kernel
theorem dX10_packet_25 : decode cX10_packet 25 = .ok (.ifCond .le 6, 3) := by decide +kernel
theorem dX10_packet_28 : decode cX10_packet 28 = .ok (.bipush (-2), 2) := by decide +kernel
theorem dX10_packet_30 : decode cX10_packet 30 = .ok (.ireturn, 1) := by decide +kernel
theorem dX10_packet_31 : decode cX10_packet 31 = .ok (.aload_n 0, 1) := by decide +kernel
theorem dX10_packet_32 : decode cX10_packet 32 = .ok (.iconst 0, 1) := by decide +kernel
theorem dX10_packet_33 : decode cX10_packet 33 = .ok (.putfield 58, 3) := by decide +kernel
theorem dX10_packet_36 : decode cX10_packet 36 = .ok (.aload_n 0, 1) := by decide +kernel
theorem dX10_packet_37 : decode cX10_packet 37 = .ok (.getfield 69, 3) := by decide +kernel
theorem dX10_packet_40 : decode cX10_packet 40 = .ok (.bipush 64, 2) := by decide +kernel
theorem dX10_packet_42 : decode cX10_packet 42 = .ok (.if_icmp .eq 15, 3) := by decide +kernel
theorem dX10_packet_45 : decode cX10_packet 45 = .ok (.aload_n 0, 1) := by decide +kernel
theorem dX10_packet_46 : decode cX10_packet 46 = .ok (.getfield 72, 3) := by decide +kernel
theorem dX10_packet_49 : decode cX10_packet 49 = .ok (.iload_n 1, 1) := by decide +kernel
theorem dX10_packet_50 : decode cX10_packet 50 = .ok (.iadd, 1) := by decide +kernel
theorem dX10_packet_51 : decode cX10_packet 51 = .ok (.sipush 2400, 3) := by decide +kernel
theorem dX10_packet_54 : decode cX10_packet 54 = .ok (.if_icmp .le 5, 3) := by decide +kernel
theorem dX10_packet_57 : decode cX10_packet 57 = .ok (.iconst (-1), 1) := by decide +kernel
theorem dX10_packet_58 : decode cX10_packet 58 = .ok (.ireturn, 1) := by decide +kernel
theorem dX10_packet_59 : decode cX10_packet 59 = .ok (.iconst 0, 1) := by decide +kernel
theorem dX10_packet_60 : decode cX10_packet 60 = .ok (.istore 4, 2) := by decide +kernel
theorem dX10_packet_62 : decode cX10_packet 62 = .ok (.iload 4, 2) := by decide +kernel
theorem dX10_packet_64 : decode cX10_packet 64 = .ok (.iload_n 1, 1) := by decide +kernel
theorem dX10_packet_65 : decode cX10_packet 65 = .ok (.if_icmp .ge 28, 3) := by decide +kernel
theorem dX10_packet_68 : decode cX10_packet 68 = .ok (.aload_n 0, 1) := by decide +kernel
theorem dX10_packet_69 : decode cX10_packet 69 = .ok (.getfield 33, 3) := by decide +kernel
theorem dX10_packet_72 : decode cX10_packet 72 = .ok (.aload_n 0, 1) := by decide +kernel
theorem dX10_packet_73 : decode cX10_packet 73 = .ok (.getfield 72, 3) := by decide +kernel
theorem dX10_packet_76 : decode cX10_packet 76 = .ok (.iload 4, 2) := by decide +kernel
theorem dX10_packet_78 : decode cX10_packet 78 = .ok (.iadd, 1) := by decide +kernel
theorem dX10_packet_79 : decode cX10_packet 79 = .ok (.aload_n 0, 1) := by decide +kernel
theorem dX10_packet_80 : decode cX10_packet 80 = .ok (.getfield 7, 3) := by decide +kernel
theorem dX10_packet_83 : decode cX10_packet 83 = .ok (.iload 4, 2) := by decide +kernel
theorem dX10_packet_85 : decode cX10_packet 85 = .ok (.baload, 1) := by decide +kernel
theorem dX10_packet_86 : decode cX10_packet 86 = .ok (.bastore, 1) := by decide +kernel
theorem dX10_packet_87 : decode cX10_packet 87 = .ok (.iinc 4 1, 3) := by decide +kernel
theorem dX10_packet_90 : decode cX10_packet 90 = .ok (.goto (-28), 3) := by decide +kernel
theorem dX10_packet_93 : decode cX10_packet 93 = .ok (.aload_n 0, 1) := by decide +kernel
theorem dX10_packet_94 : decode cX10_packet 94 = .ok (.getfield 19, 3) := by decide +kernel
theorem dX10_packet_97 : decode cX10_packet 97 = .ok (.aload_n 0, 1) := by decide +kernel
theorem dX10_packet_98 : decode cX10_packet 98 = .ok (.getfield 69, 3) := by decide +kernel
theorem dX10_packet_101 : decode cX10_packet 101 = .ok (.iload_n 1, 1) := by decide +kernel
theorem dX10_packet_102 : decode cX10_packet 102 = .ok (.iastore, 1) := by decide +kernel
theorem dX10_packet_103 : decode cX10_packet 103 = .ok (.aload_n 0, 1) := by decide +kernel
theorem dX10_packet_104 : decode cX10_packet 104 = .ok (.getfield 26, 3) := by decide +kernel
theorem dX10_packet_107 : decode cX10_packet 107 = .ok (.aload_n 0, 1) := by decide +kernel
theorem dX10_packet_108 : decode cX10_packet 108 = .ok (.getfield 69, 3) := by decide +kernel
theorem dX10_packet_111 : decode cX10_packet 111 = .ok (.lload_n 2, 1) := by decide +kernel
theorem dX10_packet_112 : decode cX10_packet 112 = .ok (.lastore, 1) := by decide +kernel
theorem dX10_packet_113 : decode cX10_packet 113 = .ok (.aload_n 0, 1) := by decide +kernel
theorem dX10_packet_114 : decode cX10_packet 114 = .ok (.dup, 1) := by decide +kernel
theorem dX10_packet_115 : decode cX10_packet 115 = .ok (.getfield 69, 3) := by decide +kernel
theorem dX10_packet_118 : decode cX10_packet 118 = .ok (.iconst 1, 1) := by decide +kernel
theorem dX10_packet_119 : decode cX10_packet 119 = .ok (.iadd, 1) := by decide +kernel
theorem dX10_packet_120 : decode cX10_packet 120 = .ok (.putfield 69, 3) := by decide +kernel
theorem dX10_packet_123 : decode cX10_packet 123 = .ok (.aload_n 0, 1) := by decide +kernel
theorem dX10_packet_124 : decode cX10_packet 124 = .ok (.dup, 1) := by decide +kernel
theorem dX10_packet_125 : decode cX10_packet 125 = .ok (.getfield 72, 3) := by decide +kernel
theorem dX10_packet_128 : decode cX10_packet 128 = .ok (.iload_n 1, 1) := by decide +kernel
theorem dX10_packet_129 : decode cX10_packet 129 = .ok (.iadd, 1) := by decide +kernel
theorem dX10_packet_130 : decode cX10_packet 130 = .ok (.putfield 72, 3) := by decide +kernel
theorem dX10_packet_133 : decode cX10_packet 133 = .ok (.aload_n 0, 1) := by decide +kernel
theorem dX10_packet_134 : decode cX10_packet 134 = .ok (.getfield 69, 3) := by decide +kernel
theorem dX10_packet_137 : decode cX10_packet 137 = .ok (.ireturn, 1) := by decide +kernel
theorem dX10_clear_0 : decode cX10_clear 0 = .ok (.aload_n 0, 1) := by decide +kernel
theorem dX10_clear_1 : decode cX10_clear 1 = .ok (.getfield 69, 3) := by decide +kernel
theorem dX10_clear_4 : decode cX10_clear 4 = .ok (.istore_n 1, 1) := by decide +kernel
theorem dX10_clear_5 : decode cX10_clear 5 = .ok (.aload_n 0, 1) := by decide +kernel
theorem dX10_clear_6 : decode cX10_clear 6 = .ok (.iconst 0, 1) := by decide +kernel
theorem dX10_clear_7 : decode cX10_clear 7 = .ok (.putfield 69, 3) := by decide +kernel
theorem dX10_clear_10 : decode cX10_clear 10 = .ok (.aload_n 0, 1) := by decide +kernel
theorem dX10_clear_11 : decode cX10_clear 11 = .ok (.iconst 0, 1) := by decide +kernel
theorem dX10_clear_12 : decode cX10_clear 12 = .ok (.putfield 72, 3) := by decide +kernel
theorem dX10_clear_15 : decode cX10_clear 15 = .ok (.iload_n 1, 1) := by decide +kernel
theorem dX10_clear_16 : decode cX10_clear 16 = .ok (.ireturn, 1) := by decide +kernel
theorem dX10_timeOf_0 : decode cX10_timeOf 0 = .ok (.iload_n 1, 1) := by decide +kernel
theorem dX10_timeOf_1 : decode cX10_timeOf 1 = .ok (.istore_n 2, 1) := by decide +kernel
theorem dX10_timeOf_2 : decode cX10_timeOf 2 = .ok (.iload_n 2, 1) := by decide +kernel
theorem dX10_timeOf_3 : decode cX10_timeOf 3 = .ok (.ifCond .lt 22, 3) := by decide +kernel
theorem dX10_timeOf_6 : decode cX10_timeOf 6 = .ok (.aload_n 0, 1) := by decide +kernel
theorem dX10_timeOf_7 : decode cX10_timeOf 7 = .ok (.getfield 26, 3) := by decide +kernel
theorem dX10_timeOf_10 : decode cX10_timeOf 10 = .ok (.iload_n 2, 1) := by decide +kernel
theorem dX10_timeOf_11 : decode cX10_timeOf 11 = .ok (.laload, 1) := by decide +kernel
theorem dX10_timeOf_12 : decode cX10_timeOf 12 = .ok (.ldc2_w 65, 3) := by decide +kernel
theorem dX10_timeOf_15 : decode cX10_timeOf 15 = .ok (.lcmp, 1) := by decide +kernel
theorem dX10_timeOf_16 : decode cX10_timeOf 16 = .ok (.ifCond .ne 9, 3) := by decide +kernel
theorem dX10_timeOf_19 : decode cX10_timeOf 19 = .ok (.iinc 2 (-1), 3) := by decide +kernel
theorem dX10_timeOf_22 : decode cX10_timeOf 22 = .ok (.goto (-20), 3) := by decide +kernel
theorem dX10_timeOf_25 : decode cX10_timeOf 25 = .ok (.iload_n 2, 1) := by decide +kernel
theorem dX10_timeOf_26 : decode cX10_timeOf 26 = .ok (.ifCond .ge 7, 3) := by decide +kernel
theorem dX10_timeOf_29 : decode cX10_timeOf 29 = .ok (.lconst 0, 1) := by decide +kernel
theorem dX10_timeOf_30 : decode cX10_timeOf 30 = .ok (.goto 9, 3) := by decide +kernel
theorem dX10_timeOf_33 : decode cX10_timeOf 33 = .ok (.aload_n 0, 1) := by decide +kernel
theorem dX10_timeOf_34 : decode cX10_timeOf 34 = .ok (.getfield 26, 3) := by decide +kernel
theorem dX10_timeOf_37 : decode cX10_timeOf 37 = .ok (.iload_n 2, 1) := by decide +kernel
theorem dX10_timeOf_38 : decode cX10_timeOf 38 = .ok (.laload, 1) := by decide +kernel
theorem dX10_timeOf_39 : decode cX10_timeOf 39 = .ok (.lreturn, 1) := by decide +kernel
theorem dX10_takeList_0 : decode cX10_takeList 0 = .ok (.aload_n 0, 1) := by decide +kernel
theorem dX10_takeList_1 : decode cX10_takeList 1 = .ok (.aload_n 0, 1) := by decide +kernel
theorem dX10_takeList_2 : decode cX10_takeList 2 = .ok (.getfield 75, 3) := by decide +kernel
theorem dX10_takeList_5 : decode cX10_takeList 5 = .ok (.putfield 69, 3) := by decide +kernel
theorem dX10_takeList_8 : decode cX10_takeList 8 = .ok (.aload_n 0, 1) := by decide +kernel
theorem dX10_takeList_9 : decode cX10_takeList 9 = .ok (.aload_n 0, 1) := by decide +kernel
theorem dX10_takeList_10 : decode cX10_takeList 10 = .ok (.getfield 78, 3) := by decide +kernel
theorem dX10_takeList_13 : decode cX10_takeList 13 = .ok (.putfield 72, 3) := by decide +kernel
theorem dX10_takeList_16 : decode cX10_takeList 16 = .ok (.iconst 0, 1) := by decide +kernel
theorem dX10_takeList_17 : decode cX10_takeList 17 = .ok (.istore_n 1, 1) := by decide +kernel
theorem dX10_takeList_18 : decode cX10_takeList 18 = .ok (.iload_n 1, 1) := by decide +kernel
theorem dX10_takeList_19 : decode cX10_takeList 19 = .ok (.aload_n 0, 1) := by decide +kernel
theorem dX10_takeList_20 : decode cX10_takeList 20 = .ok (.getfield 69, 3) := by decide +kernel
theorem dX10_takeList_23 : decode cX10_takeList 23 = .ok (.if_icmp .ge 33, 3) := by decide +kernel
theorem dX10_takeList_26 : decode cX10_takeList 26 = .ok (.aload_n 0, 1) := by decide +kernel
theorem dX10_takeList_27 : decode cX10_takeList 27 = .ok (.getfield 19, 3) := by decide +kernel
theorem dX10_takeList_30 : decode cX10_takeList 30 = .ok (.iload_n 1, 1) := by decide +kernel
theorem dX10_takeList_31 : decode cX10_takeList 31 = .ok (.aload_n 0, 1) := by decide +kernel
theorem dX10_takeList_32 : decode cX10_takeList 32 = .ok (.getfield 23, 3) := by decide +kernel
theorem dX10_takeList_35 : decode cX10_takeList 35 = .ok (.iload_n 1, 1) := by decide +kernel
theorem dX10_takeList_36 : decode cX10_takeList 36 = .ok (.iaload, 1) := by decide +kernel
theorem dX10_takeList_37 : decode cX10_takeList 37 = .ok (.iastore, 1) := by decide +kernel
theorem dX10_takeList_38 : decode cX10_takeList 38 = .ok (.aload_n 0, 1) := by decide +kernel
theorem dX10_takeList_39 : decode cX10_takeList 39 = .ok (.getfield 26, 3) := by decide +kernel
theorem dX10_takeList_42 : decode cX10_takeList 42 = .ok (.iload_n 1, 1) := by decide +kernel
theorem dX10_takeList_43 : decode cX10_takeList 43 = .ok (.aload_n 0, 1) := by decide +kernel
theorem dX10_takeList_44 : decode cX10_takeList 44 = .ok (.getfield 30, 3) := by decide +kernel
theorem dX10_takeList_47 : decode cX10_takeList 47 = .ok (.iload_n 1, 1) := by decide +kernel
theorem dX10_takeList_48 : decode cX10_takeList 48 = .ok (.laload, 1) := by decide +kernel
theorem dX10_takeList_49 : decode cX10_takeList 49 = .ok (.lastore, 1) := by decide +kernel
theorem dX10_takeList_50 : decode cX10_takeList 50 = .ok (.iinc 1 1, 3) := by decide +kernel
theorem dX10_takeList_53 : decode cX10_takeList 53 = .ok (.goto (-35), 3) := by decide +kernel
theorem dX10_takeList_56 : decode cX10_takeList 56 = .ok (.iconst 0, 1) := by decide +kernel
theorem dX10_takeList_57 : decode cX10_takeList 57 = .ok (.istore_n 1, 1) := by decide +kernel
theorem dX10_takeList_58 : decode cX10_takeList 58 = .ok (.iload_n 1, 1) := by decide +kernel
theorem dX10_takeList_59 : decode cX10_takeList 59 = .ok (.aload_n 0, 1) := by decide +kernel
theorem dX10_takeList_60 : decode cX10_takeList 60 = .ok (.getfield 72, 3) := by decide +kernel
theorem dX10_takeList_63 : decode cX10_takeList 63 = .ok (.if_icmp .ge 21, 3) := by decide +kernel
theorem dX10_takeList_66 : decode cX10_takeList 66 = .ok (.aload_n 0, 1) := by decide +kernel
theorem dX10_takeList_67 : decode cX10_takeList 67 = .ok (.getfield 33, 3) := by decide +kernel
theorem dX10_takeList_70 : decode cX10_takeList 70 = .ok (.iload_n 1, 1) := by decide +kernel
theorem dX10_takeList_71 : decode cX10_takeList 71 = .ok (.aload_n 0, 1) := by decide +kernel
theorem dX10_takeList_72 : decode cX10_takeList 72 = .ok (.getfield 36, 3) := by decide +kernel
theorem dX10_takeList_75 : decode cX10_takeList 75 = .ok (.iload_n 1, 1) := by decide +kernel
theorem dX10_takeList_76 : decode cX10_takeList 76 = .ok (.baload, 1) := by decide +kernel
theorem dX10_takeList_77 : decode cX10_takeList 77 = .ok (.bastore, 1) := by decide +kernel
theorem dX10_takeList_78 : decode cX10_takeList 78 = .ok (.iinc 1 1, 3) := by decide +kernel
theorem dX10_takeList_81 : decode cX10_takeList 81 = .ok (.goto (-23), 3) := by decide +kernel
theorem dX10_takeList_84 : decode cX10_takeList 84 = .ok (.return_, 1) := by decide +kernel
theorem dX10_put_0 : decode cX10_put 0 = .ok (.aload_n 0, 1) := by decide +kernel
theorem dX10_put_1 : decode cX10_put 1 = .ok (.getfield 81, 3) := by decide +kernel
theorem dX10_put_4 : decode cX10_put 4 = .ok (.sipush 6000, 3) := by decide +kernel
theorem dX10_put_7 : decode cX10_put 7 = .ok (.if_icmp .ne 9, 3) := by decide +kernel
theorem dX10_put_10 : decode cX10_put 10 = .ok (.aload_n 0, 1) := by decide +kernel
theorem dX10_put_11 : decode cX10_put 11 = .ok (.iconst 1, 1) := by decide +kernel
theorem dX10_put_12 : decode cX10_put 12 = .ok (.putfield 84, 3) := by decide +kernel
theorem dX10_put_15 : decode cX10_put 15 = .ok (.return_, 1) := by decide +kernel
theorem dX10_put_16 : decode cX10_put 16 = .ok (.aload_n 0, 1) := by decide +kernel
theorem dX10_put_17 : decode cX10_put 17 = .ok (.getfield 16, 3) := by decide +kernel
theorem dX10_put_20 : decode cX10_put 20 = .ok (.aload_n 0, 1) := by decide +kernel
theorem dX10_put_21 : decode cX10_put 21 = .ok (.getfield 81, 3) := by decide +kernel
theorem dX10_put_24 : decode cX10_put 24 = .ok (.iload_n 1, 1) := by decide +kernel
theorem dX10_put_25 : decode cX10_put 25 = .ok (.i2b, 1) := by decide +kernel
theorem dX10_put_26 : decode cX10_put 26 = .ok (.bastore, 1) := by decide +kernel
theorem dX10_put_27 : decode cX10_put 27 = .ok (.aload_n 0, 1) := by decide +kernel
theorem dX10_put_28 : decode cX10_put 28 = .ok (.dup, 1) := by decide +kernel
theorem dX10_put_29 : decode cX10_put 29 = .ok (.getfield 81, 3) := by decide +kernel
theorem dX10_put_32 : decode cX10_put 32 = .ok (.iconst 1, 1) := by decide +kernel
theorem dX10_put_33 : decode cX10_put 33 = .ok (.iadd, 1) := by decide +kernel
theorem dX10_put_34 : decode cX10_put 34 = .ok (.putfield 81, 3) := by decide +kernel
theorem dX10_put_37 : decode cX10_put 37 = .ok (.return_, 1) := by decide +kernel
set_option maxRecDepth 20000 in
theorem ggX10_putLow_X10_put : GoodIn wsX10_putLow wsX10_put := goodIn_r _ [5, 6, 7, 8, 9, 10, 11, 12, 13, 14, 15, 16, 17, 18, 19, 20, 21, 22, 23, 24, 25, 26, 27, 28, 29, 30, 31, 32, 33, 34, 35, 36, 37, 38, 39, 40, 41, 42, 43, 44, 45, 46, 47, 48, 49, 50, 51, 52, 53, 54] (by decide +kernel) (by decide +kernel)
set_option maxRecDepth 20000 in
theorem gX10_putLow_X10_put : GoodIn wsX10_putLow (wsV RX10 88 RX10 yX10_put wsX10_put) := goodIn_app (goodIn_of _ (by decide +kernel)) ggX10_putLow_X10_put
theorem dX10_putLow_0 : decode cX10_putLow 0 = .ok (.iconst 0, 1) := by decide +kernel
theorem dX10_putLow_1 : decode cX10_putLow 1 = .ok (.istore 4, 2) := by decide +kernel
theorem dX10_putLow_3 : decode cX10_putLow 3 = .ok (.iload 4, 2) := by decide +kernel
theorem dX10_putLow_5 : decode cX10_putLow 5 = .ok (.iload_n 3, 1) := by decide +kernel
theorem dX10_putLow_6 : decode cX10_putLow 6 = .ok (.if_icmp .ge 21, 3) := by decide +kernel
theorem dX10_putLow_9 : decode cX10_putLow 9 = .ok (.aload_n 0, 1) := by decide +kernel
theorem dX10_putLow_10 : decode cX10_putLow 10 = .ok (.lload_n 1, 1) := by decide +kernel
theorem dX10_putLow_11 : decode cX10_putLow 11 = .ok (.bipush 8, 2) := by decide +kernel
theorem dX10_putLow_13 : decode cX10_putLow 13 = .ok (.iload 4, 2) := by decide +kernel
theorem dX10_putLow_15 : decode cX10_putLow 15 = .ok (.imul, 1) := by decide +kernel
theorem dX10_putLow_16 : decode cX10_putLow 16 = .ok (.lshr, 1) := by decide +kernel
theorem dX10_putLow_17 : decode cX10_putLow 17 = .ok (.l2i, 1) := by decide +kernel
theorem dX10_putLow_18 : decode cX10_putLow 18 = .ok (.invokevirtual 88, 3) := by decide +kernel
theorem dX10_putLow_21 : decode cX10_putLow 21 = .ok (.iinc 4 1, 3) := by decide +kernel
theorem dX10_putLow_24 : decode cX10_putLow 24 = .ok (.goto (-21), 3) := by decide +kernel
theorem dX10_putLow_27 : decode cX10_putLow 27 = .ok (.return_, 1) := by decide +kernel
set_option maxRecDepth 20000 in
theorem ggX10_putHigh_X10_put : GoodIn wsX10_putHigh wsX10_put := goodIn_r _ [5, 6, 7, 8, 9, 10, 11, 12, 13, 14, 15, 16, 17, 18, 19, 20, 21, 22, 23, 24, 25, 26, 27, 28, 29, 30, 31, 32, 33, 34, 35, 36, 37, 38, 39, 40, 41, 42, 43, 44, 45, 46, 47, 48, 49, 50, 51, 52, 53, 54] (by decide +kernel) (by decide +kernel)
set_option maxRecDepth 20000 in
theorem gX10_putHigh_X10_put : GoodIn wsX10_putHigh (wsV RX10 88 RX10 yX10_put wsX10_put) := goodIn_app (goodIn_of _ (by decide +kernel)) ggX10_putHigh_X10_put
theorem dX10_putHigh_0 : decode cX10_putHigh 0 = .ok (.iload_n 3, 1) := by decide +kernel
theorem dX10_putHigh_1 : decode cX10_putHigh 1 = .ok (.iconst 1, 1) := by decide +kernel
theorem dX10_putHigh_2 : decode cX10_putHigh 2 = .ok (.isub, 1) := by decide +kernel
theorem dX10_putHigh_3 : decode cX10_putHigh 3 = .ok (.istore 4, 2) := by decide +kernel
theorem dX10_putHigh_5 : decode cX10_putHigh 5 = .ok (.iload 4, 2) := by decide +kernel
theorem dX10_putHigh_7 : decode cX10_putHigh 7 = .ok (.ifCond .lt 21, 3) := by decide +kernel
theorem dX10_putHigh_10 : decode cX10_putHigh 10 = .ok (.aload_n 0, 1) := by decide +kernel
theorem dX10_putHigh_11 : decode cX10_putHigh 11 = .ok (.lload_n 1, 1) := by decide +kernel
theorem dX10_putHigh_12 : decode cX10_putHigh 12 = .ok (.bipush 8, 2) := by decide +kernel
theorem dX10_putHigh_14 : decode cX10_putHigh 14 = .ok (.iload 4, 2) := by decide +kernel
theorem dX10_putHigh_16 : decode cX10_putHigh 16 = .ok (.imul, 1) := by decide +kernel
theorem dX10_putHigh_17 : decode cX10_putHigh 17 = .ok (.lshr, 1) := by decide +kernel
theorem dX10_putHigh_18 : decode cX10_putHigh 18 = .ok (.l2i, 1) := by decide +kernel
theorem dX10_putHigh_19 : decode cX10_putHigh 19 = .ok (.invokevirtual 88, 3) := by decide +kernel
theorem dX10_putHigh_22 : decode cX10_putHigh 22 = .ok (.iinc 4 (-1), 3) := by decide +kernel
theorem dX10_putHigh_25 : decode cX10_putHigh 25 = .ok (.goto (-20), 3) := by decide +kernel
theorem dX10_putHigh_28 : decode cX10_putHigh 28 = .ok (.return_, 1) := by decide +kernel
set_option maxRecDepth 20000 in
theorem ggX10_putRow_X10_put : GoodIn wsX10_putRow wsX10_put := goodIn_r _ [5, 6, 7, 8, 9, 10, 11, 12, 13, 14, 15, 16, 17, 18, 19, 20, 21, 22, 23, 24, 25, 26, 27, 28, 29, 30, 31, 32, 33, 34, 35, 36, 37, 38, 39, 40, 41, 42, 43, 44, 45, 46, 47, 48, 49, 50, 51, 52, 53, 54] (by decide +kernel) (by decide +kernel)
set_option maxRecDepth 20000 in
theorem gX10_putRow_X10_put : GoodIn wsX10_putRow (wsV RX10 88 RX10 yX10_put wsX10_put) := goodIn_app (goodIn_of _ (by decide +kernel)) ggX10_putRow_X10_put
theorem dX10_putRow_0 : decode cX10_putRow 0 = .ok (.iconst 0, 1) := by decide +kernel
theorem dX10_putRow_1 : decode cX10_putRow 1 = .ok (.istore_n 2, 1) := by decide +kernel
theorem dX10_putRow_2 : decode cX10_putRow 2 = .ok (.iload_n 2, 1) := by decide +kernel
theorem dX10_putRow_3 : decode cX10_putRow 3 = .ok (.aload_n 1, 1) := by decide +kernel
theorem dX10_putRow_4 : decode cX10_putRow 4 = .ok (.arraylength, 1) := by decide +kernel
theorem dX10_putRow_5 : decode cX10_putRow 5 = .ok (.if_icmp .ge 16, 3) := by decide +kernel
theorem dX10_putRow_8 : decode cX10_putRow 8 = .ok (.aload_n 0, 1) := by decide +kernel
theorem dX10_putRow_9 : decode cX10_putRow 9 = .ok (.aload_n 1, 1) := by decide +kernel
theorem dX10_putRow_10 : decode cX10_putRow 10 = .ok (.iload_n 2, 1) := by decide +kernel
theorem dX10_putRow_11 : decode cX10_putRow 11 = .ok (.baload, 1) := by decide +kernel
theorem dX10_putRow_12 : decode cX10_putRow 12 = .ok (.invokevirtual 88, 3) := by decide +kernel
theorem dX10_putRow_15 : decode cX10_putRow 15 = .ok (.iinc 2 1, 3) := by decide +kernel
theorem dX10_putRow_18 : decode cX10_putRow 18 = .ok (.goto (-16), 3) := by decide +kernel
theorem dX10_putRow_21 : decode cX10_putRow 21 = .ok (.return_, 1) := by decide +kernel
theorem dX10_drawn_0 : decode cX10_drawn 0 = .ok (.aload_n 0, 1) := by decide +kernel
theorem dX10_drawn_1 : decode cX10_drawn 1 = .ok (.getfield 84, 3) := by decide +kernel
theorem dX10_drawn_4 : decode cX10_drawn 4 = .ok (.ifCond .eq 5, 3) := by decide +kernel
theorem dX10_drawn_7 : decode cX10_drawn 7 = .ok (.iconst (-1), 1) := by decide +kernel
theorem dX10_drawn_8 : decode cX10_drawn 8 = .ok (.ireturn, 1) := by decide +kernel
theorem dX10_drawn_9 : decode cX10_drawn 9 = .ok (.iconst 0, 1) := by decide +kernel
theorem dX10_drawn_10 : decode cX10_drawn 10 = .ok (.istore_n 1, 1) := by decide +kernel
theorem dX10_drawn_11 : decode cX10_drawn 11 = .ok (.iload_n 1, 1) := by decide +kernel
theorem dX10_drawn_12 : decode cX10_drawn 12 = .ok (.aload_n 0, 1) := by decide +kernel
theorem dX10_drawn_13 : decode cX10_drawn 13 = .ok (.getfield 81, 3) := by decide +kernel
theorem dX10_drawn_16 : decode cX10_drawn 16 = .ok (.if_icmp .ge 21, 3) := by decide +kernel
theorem dX10_drawn_19 : decode cX10_drawn 19 = .ok (.aload_n 0, 1) := by decide +kernel
theorem dX10_drawn_20 : decode cX10_drawn 20 = .ok (.getfield 13, 3) := by decide +kernel
theorem dX10_drawn_23 : decode cX10_drawn 23 = .ok (.iload_n 1, 1) := by decide +kernel
theorem dX10_drawn_24 : decode cX10_drawn 24 = .ok (.aload_n 0, 1) := by decide +kernel
theorem dX10_drawn_25 : decode cX10_drawn 25 = .ok (.getfield 16, 3) := by decide +kernel
theorem dX10_drawn_28 : decode cX10_drawn 28 = .ok (.iload_n 1, 1) := by decide +kernel
theorem dX10_drawn_29 : decode cX10_drawn 29 = .ok (.baload, 1) := by decide +kernel
theorem dX10_drawn_30 : decode cX10_drawn 30 = .ok (.bastore, 1) := by decide +kernel
theorem dX10_drawn_31 : decode cX10_drawn 31 = .ok (.iinc 1 1, 3) := by decide +kernel
theorem dX10_drawn_34 : decode cX10_drawn 34 = .ok (.goto (-23), 3) := by decide +kernel
theorem dX10_drawn_37 : decode cX10_drawn 37 = .ok (.aload_n 0, 1) := by decide +kernel
theorem dX10_drawn_38 : decode cX10_drawn 38 = .ok (.aload_n 0, 1) := by decide +kernel
theorem dX10_drawn_39 : decode cX10_drawn 39 = .ok (.getfield 81, 3) := by decide +kernel
theorem dX10_drawn_42 : decode cX10_drawn 42 = .ok (.putfield 91, 3) := by decide +kernel
theorem dX10_drawn_45 : decode cX10_drawn 45 = .ok (.aload_n 0, 1) := by decide +kernel
theorem dX10_drawn_46 : decode cX10_drawn 46 = .ok (.getfield 91, 3) := by decide +kernel
theorem dX10_drawn_49 : decode cX10_drawn 49 = .ok (.ireturn, 1) := by decide +kernel
theorem dX10_sumOf_0 : decode cX10_sumOf 0 = .ok (.iconst 0, 1) := by decide +kernel
theorem dX10_sumOf_1 : decode cX10_sumOf 1 = .ok (.istore_n 3, 1) := by decide +kernel
theorem dX10_sumOf_2 : decode cX10_sumOf 2 = .ok (.iconst 0, 1) := by decide +kernel
theorem dX10_sumOf_3 : decode cX10_sumOf 3 = .ok (.istore 4, 2) := by decide +kernel
theorem dX10_sumOf_5 : decode cX10_sumOf 5 = .ok (.iload 4, 2) := by decide +kernel
theorem dX10_sumOf_7 : decode cX10_sumOf 7 = .ok (.iload_n 2, 1) := by decide +kernel
theorem dX10_sumOf_8 : decode cX10_sumOf 8 = .ok (.if_icmp .ge 80, 3) := by decide +kernel
theorem dX10_sumOf_11 : decode cX10_sumOf 11 = .ok (.iload 4, 2) := by decide +kernel
theorem dX10_sumOf_13 : decode cX10_sumOf 13 = .ok (.bipush 22, 2) := by decide +kernel
theorem dX10_sumOf_15 : decode cX10_sumOf 15 = .ok (.if_icmp .lt 14, 3) := by decide +kernel
theorem dX10_sumOf_18 : decode cX10_sumOf 18 = .ok (.iload 4, 2) := by decide +kernel
theorem dX10_sumOf_20 : decode cX10_sumOf 20 = .ok (.bipush 26, 2) := by decide +kernel
theorem dX10_sumOf_22 : decode cX10_sumOf 22 = .ok (.if_icmp .ge 7, 3) := by decide +kernel
theorem dX10_sumOf_25 : decode cX10_sumOf 25 = .ok (.iconst 0, 1) := by decide +kernel
theorem dX10_sumOf_26 : decode cX10_sumOf 26 = .ok (.goto 13, 3) := by decide +kernel
theorem dX10_sumOf_29 : decode cX10_sumOf 29 = .ok (.aload_n 0, 1) := by decide +kernel
theorem dX10_sumOf_30 : decode cX10_sumOf 30 = .ok (.iload_n 1, 1) := by decide +kernel
theorem dX10_sumOf_31 : decode cX10_sumOf 31 = .ok (.iload 4, 2) := by decide +kernel
