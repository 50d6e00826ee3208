theorem dX1_readSizeOrDifference_49 : decode cX1_readSizeOrDifference 49 = .ok (.iadd, 1) := by decide +kernel
theorem dX1_readSizeOrDifference_50 : decode cX1_readSizeOrDifference 50 = .ok (.putfield 180, 3) := by decide +kernel
theorem dX1_readSizeOrDifference_53 : decode cX1_readSizeOrDifference 53 = .ok (.iload_n 1, 1) := by decide +kernel
theorem dX1_readSizeOrDifference_54 : decode cX1_readSizeOrDifference 54 = .ok (.iconst 1, 1) := by decide +kernel
theorem dX1_readSizeOrDifference_55 : decode cX1_readSizeOrDifference 55 = .ok (.if_icmp .lt 12, 3) := by decide +kernel
theorem dX1_readSizeOrDifference_58 : decode cX1_readSizeOrDifference 58 = .ok (.iload_n 1, 1) := by decide +kernel
theorem dX1_readSizeOrDifference_59 : decode cX1_readSizeOrDifference 59 = .ok (.aload_n 0, 1) := by decide +kernel
theorem dX1_readSizeOrDifference_60 : decode cX1_readSizeOrDifference 60 = .ok (.getfield 13, 3) := by decide +kernel
theorem dX1_readSizeOrDifference_63 : decode cX1_readSizeOrDifference 63 = .ok (.arraylength, 1) := by decide +kernel
theorem dX1_readSizeOrDifference_64 : decode cX1_readSizeOrDifference 64 = .ok (.if_icmp .le 6, 3) := by decide +kernel
theorem dX1_readSizeOrDifference_67 : decode cX1_readSizeOrDifference 67 = .ok (.lload 4, 2) := by decide +kernel
theorem dX1_readSizeOrDifference_69 : decode cX1_readSizeOrDifference 69 = .ok (.lreturn, 1) := by decide +kernel
theorem dX1_readSizeOrDifference_70 : decode cX1_readSizeOrDifference 70 = .ok (.aload_n 0, 1) := by decide +kernel
theorem dX1_readSizeOrDifference_71 : decode cX1_readSizeOrDifference 71 = .ok (.getfield 13, 3) := by decide +kernel
theorem dX1_readSizeOrDifference_74 : decode cX1_readSizeOrDifference 74 = .ok (.iload_n 1, 1) := by decide +kernel
theorem dX1_readSizeOrDifference_75 : decode cX1_readSizeOrDifference 75 = .ok (.iconst 1, 1) := by decide +kernel
theorem dX1_readSizeOrDifference_76 : decode cX1_readSizeOrDifference 76 = .ok (.isub, 1) := by decide +kernel
theorem dX1_readSizeOrDifference_77 : decode cX1_readSizeOrDifference 77 = .ok (.iaload, 1) := by decide +kernel
theorem dX1_readSizeOrDifference_78 : decode cX1_readSizeOrDifference 78 = .ok (.i2l, 1) := by decide +kernel
theorem dX1_readSizeOrDifference_79 : decode cX1_readSizeOrDifference 79 = .ok (.lload 4, 2) := by decide +kernel
theorem dX1_readSizeOrDifference_81 : decode cX1_readSizeOrDifference 81 = .ok (.ladd, 1) := by decide +kernel
theorem dX1_readSizeOrDifference_82 : decode cX1_readSizeOrDifference 82 = .ok (.iload_n 3, 1) := by decide +kernel
theorem dX1_readSizeOrDifference_83 : decode cX1_readSizeOrDifference 83 = .ok (.invokestatic 212, 3) := by decide +kernel
theorem dX1_readSizeOrDifference_86 : decode cX1_readSizeOrDifference 86 = .ok (.lsub, 1) := by decide +kernel
theorem dX1_readSizeOrDifference_87 : decode cX1_readSizeOrDifference 87 = .ok (.lreturn, 1) := by decide +kernel
set_option maxRecDepth 20000 in
theorem ggX2_init_X8_init : GoodIn wsX2_init wsX8_init := goodIn_r _ [10, 11, 2, 3, 12, 13, 14, 15, 16, 17, 18, 19, 20, 21, 22] (by decide +kernel) (by decide +kernel)
set_option maxRecDepth 20000 in
theorem gX2_init_X8_init : GoodIn wsX2_init (wsX8_init) := ggX2_init_X8_init
theorem dX2_init_0 : decode cX2_init 0 = .ok (.aload_n 0, 1) := by decide +kernel
theorem dX2_init_1 : decode cX2_init 1 = .ok (.invokespecial 3, 3) := by decide +kernel
theorem dX2_init_4 : decode cX2_init 4 = .ok (.aload_n 0, 1) := by decide +kernel
theorem dX2_init_5 : decode cX2_init 5 = .ok (.new 9, 3) := by decide +kernel
theorem dX2_init_8 : decode cX2_init 8 = .ok (.dup, 1) := by decide +kernel
theorem dX2_init_9 : decode cX2_init 9 = .ok (.bipush 64, 2) := by decide +kernel
theorem dX2_init_11 : decode cX2_init 11 = .ok (.invokespecial 13, 3) := by decide +kernel
theorem dX2_init_14 : decode cX2_init 14 = .ok (.putfield 16, 3) := by decide +kernel
theorem dX2_init_17 : decode cX2_init 17 = .ok (.return_, 1) := by decide +kernel
set_option maxRecDepth 20000 in
theorem ggX2_write_X8_addEach : GoodIn wsX2_write wsX8_addEach := goodIn_r _ [15, 16, 17, 18, 14, 19, 20, 21, 22, 23, 24, 25, 26, 27, 137, 138, 139, 140] (by decide +kernel) (by decide +kernel)
set_option maxRecDepth 20000 in
theorem gX2_write_X8_addEach : GoodIn wsX2_write (wsV RX2 42 RX8 yX8_addEach wsX8_addEach) := goodIn_app (goodIn_of _ (by decide +kernel)) ggX2_write_X8_addEach
set_option maxRecDepth 20000 in
theorem ggX2_write_X2_beginLongElement : GoodIn wsX2_write wsX2_beginLongElement := goodIn_r _ [32, 2, 5, 33, 34, 35, 36, 14, 37, 16, 17, 18, 19, 20, 21, 22, 23, 24, 25, 26, 27, 38, 131, 132, 133, 134, 135, 136, 137, 138, 139, 140] (by decide +kernel) (by decide +kernel)
set_option maxRecDepth 20000 in
theorem gX2_write_X2_beginLongElement : GoodIn wsX2_write (wsV RX2 49 RX2 yX2_beginLongElement wsX2_beginLongElement) := goodIn_app (goodIn_of _ (by decide +kernel)) ggX2_write_X2_beginLongElement
set_option maxRecDepth 20000 in
theorem ggX2_write_X8_add : GoodIn wsX2_write wsX8_add := goodIn_r _ [19, 20, 21, 22, 23, 24, 25, 14, 26, 27, 137, 138, 139, 140] (by decide +kernel) (by decide +kernel)
set_option maxRecDepth 20000 in
theorem gX2_write_X8_add : GoodIn wsX2_write (wsV RX2 59 RX8 yX8_add wsX8_add) := goodIn_app (goodIn_of _ (by decide +kernel)) ggX2_write_X8_add
set_option maxRecDepth 20000 in
theorem ggX2_write_X2_putClusters : GoodIn wsX2_write wsX2_putClusters := goodIn_r _ [42, 1, 43, 44, 45, 46, 47, 48, 49, 50, 51, 52, 53, 54, 55, 56, 57, 58, 59, 60, 61, 62, 31, 63, 64, 65, 66, 67, 68, 69, 5, 70, 2, 33, 71, 24, 25, 14, 26, 20, 27, 28, 29, 30, 32, 34, 35, 36, 37, 16, 17, 18, 19, 21, 22, 23, 38, 72, 73, 74, 75, 76, 77, 78, 79, 80, 81, 82, 83, 84, 85, 86, 87, 4, 3, 88, 89, 90, 91, 92, 93, 94, 95, 96, 97, 98, 99, 100, 101, 102, 103, 104, 105, 106, 107, 108, 109, 110, 111, 112, 113, 114, 115, 116, 117, 118, 119, 120, 121, 122, 123, 124, 125, 126, 127, 128, 129, 130, 131, 132, 133, 134, 135, 136, 141, 142, 143, 144, 137, 138, 139, 140] (by decide +kernel) (by decide +kernel)
set_option maxRecDepth 20000 in
theorem gX2_write_X2_putClusters : GoodIn wsX2_write (wsV RX2 65 RX2 yX2_putClusters wsX2_putClusters) := goodIn_app (goodIn_of _ (by decide +kernel)) ggX2_write_X2_putClusters
set_option maxRecDepth 20000 in
theorem ggX2_write_X2_endLongElement : GoodIn wsX2_write wsX2_endLongElement := goodIn_r _ [69, 5, 70, 2, 33, 71, 24, 25, 14, 26, 20, 27, 131, 132, 133, 134, 135, 136, 137, 138, 139, 140] (by decide +kernel) (by decide +kernel)
set_option maxRecDepth 20000 in
theorem gX2_write_X2_endLongElement : GoodIn wsX2_write (wsV RX2 68 RX2 yX2_endLongElement wsX2_endLongElement) := goodIn_app (goodIn_of _ (by decide +kernel)) ggX2_write_X2_endLongElement
theorem dX2_write_0 : decode cX2_write 0 = .ok (.aload_n 0, 1) := by decide +kernel
theorem dX2_write_1 : decode cX2_write 1 = .ok (.aload_n 1, 1) := by decide +kernel
theorem dX2_write_2 : decode cX2_write 2 = .ok (.putfield 20, 3) := by decide +kernel
theorem dX2_write_5 : decode cX2_write 5 = .ok (.aload_n 0, 1) := by decide +kernel
theorem dX2_write_6 : decode cX2_write 6 = .ok (.aload_n 2, 1) := by decide +kernel
theorem dX2_write_7 : decode cX2_write 7 = .ok (.putfield 24, 3) := by decide +kernel
theorem dX2_write_10 : decode cX2_write 10 = .ok (.aload_n 0, 1) := by decide +kernel
theorem dX2_write_11 : decode cX2_write 11 = .ok (.iload_n 3, 1) := by decide +kernel
theorem dX2_write_12 : decode cX2_write 12 = .ok (.putfield 27, 3) := by decide +kernel
theorem dX2_write_15 : decode cX2_write 15 = .ok (.aload_n 0, 1) := by decide +kernel
theorem dX2_write_16 : decode cX2_write 16 = .ok (.iload 4, 2) := by decide +kernel
theorem dX2_write_18 : decode cX2_write 18 = .ok (.putfield 31, 3) := by decide +kernel
theorem dX2_write_21 : decode cX2_write 21 = .ok (.aload_n 0, 1) := by decide +kernel
theorem dX2_write_22 : decode cX2_write 22 = .ok (.iload 6, 2) := by decide +kernel
theorem dX2_write_24 : decode cX2_write 24 = .ok (.putfield 34, 3) := by decide +kernel
theorem dX2_write_27 : decode cX2_write 27 = .ok (.aload_n 0, 1) := by decide +kernel
theorem dX2_write_28 : decode cX2_write 28 = .ok (.getfield 24, 3) := by decide +kernel
theorem dX2_write_31 : decode cX2_write 31 = .ok (.getstatic 38, 3) := by decide +kernel
theorem dX2_write_34 : decode cX2_write 34 = .ok (.invokevirtual 42, 3) := by decide +kernel
theorem dX2_write_37 : decode cX2_write 37 = .ok (.aload_n 0, 1) := by decide +kernel
theorem dX2_write_38 : decode cX2_write 38 = .ok (.ldc 48, 2) := by decide +kernel
theorem dX2_write_40 : decode cX2_write 40 = .ok (.invokevirtual 49, 3) := by decide +kernel
theorem dX2_write_43 : decode cX2_write 43 = .ok (.istore 7, 2) := by decide +kernel
theorem dX2_write_45 : decode cX2_write 45 = .ok (.aload_n 0, 1) := by decide +kernel
theorem dX2_write_46 : decode cX2_write 46 = .ok (.getfield 24, 3) := by decide +kernel
theorem dX2_write_49 : decode cX2_write 49 = .ok (.getstatic 53, 3) := by decide +kernel
theorem dX2_write_52 : decode cX2_write 52 = .ok (.invokevirtual 42, 3) := by decide +kernel
theorem dX2_write_55 : decode cX2_write 55 = .ok (.aload_n 0, 1) := by decide +kernel
theorem dX2_write_56 : decode cX2_write 56 = .ok (.getfield 24, 3) := by decide +kernel
theorem dX2_write_59 : decode cX2_write 59 = .ok (.getstatic 56, 3) := by decide +kernel
theorem dX2_write_62 : decode cX2_write 62 = .ok (.invokevirtual 42, 3) := by decide +kernel
theorem dX2_write_65 : decode cX2_write 65 = .ok (.aload_n 0, 1) := by decide +kernel
theorem dX2_write_66 : decode cX2_write 66 = .ok (.getfield 24, 3) := by decide +kernel
theorem dX2_write_69 : decode cX2_write 69 = .ok (.aload_n 0, 1) := by decide +kernel
theorem dX2_write_70 : decode cX2_write 70 = .ok (.getfield 27, 3) := by decide +kernel
theorem dX2_write_73 : decode cX2_write 73 = .ok (.ifCond .le 7, 3) := by decide +kernel
theorem dX2_write_76 : decode cX2_write 76 = .ok (.iconst 1, 1) := by decide +kernel
theorem dX2_write_77 : decode cX2_write 77 = .ok (.goto 4, 3) := by decide +kernel
theorem dX2_write_80 : decode cX2_write 80 = .ok (.iconst 0, 1) := by decide +kernel
theorem dX2_write_81 : decode cX2_write 81 = .ok (.invokevirtual 59, 3) := by decide +kernel
theorem dX2_write_84 : decode cX2_write 84 = .ok (.aload_n 0, 1) := by decide +kernel
theorem dX2_write_85 : decode cX2_write 85 = .ok (.getfield 24, 3) := by decide +kernel
theorem dX2_write_88 : decode cX2_write 88 = .ok (.getstatic 62, 3) := by decide +kernel
theorem dX2_write_91 : decode cX2_write 91 = .ok (.invokevirtual 42, 3) := by decide +kernel
theorem dX2_write_94 : decode cX2_write 94 = .ok (.aload_n 0, 1) := by decide +kernel
theorem dX2_write_95 : decode cX2_write 95 = .ok (.iload 5, 2) := by decide +kernel
theorem dX2_write_97 : decode cX2_write 97 = .ok (.invokevirtual 65, 3) := by decide +kernel
theorem dX2_write_100 : decode cX2_write 100 = .ok (.aload_n 0, 1) := by decide +kernel
theorem dX2_write_101 : decode cX2_write 101 = .ok (.iload 7, 2) := by decide +kernel
theorem dX2_write_103 : decode cX2_write 103 = .ok (.invokevirtual 68, 3) := by decide +kernel
theorem dX2_write_106 : decode cX2_write 106 = .ok (.return_, 1) := by decide +kernel
set_option maxRecDepth 20000 in
theorem ggX2_putClusters_X4_timeToWrite : GoodIn wsX2_putClusters wsX4_timeToWrite := goodIn_r _ [8, 9, 10, 11, 12, 7, 13, 14, 15, 16, 17, 18, 19, 124, 125, 126, 127] (by decide +kernel) (by decide +kernel)
set_option maxRecDepth 20000 in
theorem gX2_putClusters_X4_timeToWrite : GoodIn wsX2_putClusters (wsV RX2 76 RX4 yX4_timeToWrite wsX4_timeToWrite) := goodIn_app (goodIn_of _ (by decide +kernel)) ggX2_putClusters_X4_timeToWrite
set_option maxRecDepth 20000 in
theorem ggX2_putClusters_X2_fitsBlock : GoodIn wsX2_putClusters wsX2_fitsBlock := goodIn_r _ [23, 24, 25] (by decide +kernel) (by decide +kernel)
set_option maxRecDepth 20000 in
theorem gX2_putClusters_X2_fitsBlock : GoodIn wsX2_putClusters (va_wsS RX2 80 yX2_fitsBlock wsX2_fitsBlock) := goodIn_app (goodIn_of _ (by decide +kernel)) ggX2_putClusters_X2_fitsBlock
set_option maxRecDepth 20000 in
theorem ggX2_putClusters_X2_endLongElement : GoodIn wsX2_putClusters wsX2_endLongElement := goodIn_r _ [29, 30, 31, 32, 33, 34, 35, 36, 37, 38, 39, 40, 118, 119, 120, 121, 122, 123, 128, 129, 130, 131] (by decide +kernel) (by decide +kernel)
set_option maxRecDepth 20000 in
theorem gX2_putClusters_X2_endLongElement : GoodIn wsX2_putClusters (wsV RX2 68 RX2 yX2_endLongElement wsX2_endLongElement) := goodIn_app (goodIn_of _ (by decide +kernel)) ggX2_putClusters_X2_endLongElement
set_option maxRecDepth 20000 in
theorem ggX2_putClusters_X2_beginLongElement : GoodIn wsX2_putClusters wsX2_beginLongElement := goodIn_r _ [44, 32, 30, 33, 45, 46, 47, 37, 48, 49, 50, 51, 52, 39, 53, 54, 55, 35, 36, 38, 40, 56, 118, 119, 120, 121, 122, 123, 128, 129, 130, 131] (by decide +kernel) (by decide +kernel)
set_option maxRecDepth 20000 in
theorem gX2_putClusters_X2_beginLongElement : GoodIn wsX2_putClusters (wsV RX2 49 RX2 yX2_beginLongElement wsX2_beginLongElement) := goodIn_app (goodIn_of _ (by decide +kernel)) ggX2_putClusters_X2_beginLongElement
set_option maxRecDepth 20000 in
theorem ggX2_putClusters_X2_putClusterTime : GoodIn wsX2_putClusters wsX2_putClusterTime := goodIn_r _ [60, 32, 56, 50, 51, 37, 52, 39, 53, 54, 55, 35, 36, 38, 40, 61, 62, 22, 63, 64, 65, 66, 67, 68, 45, 46, 47, 48, 49, 118, 119, 120, 121, 122, 123, 128, 129, 130, 131] (by decide +kernel) (by decide +kernel)
set_option maxRecDepth 20000 in
theorem gX2_putClusters_X2_putClusterTime : GoodIn wsX2_putClusters (wsV RX2 85 RX2 yX2_putClusterTime wsX2_putClusterTime) := goodIn_app (goodIn_of _ (by decide +kernel)) ggX2_putClusters_X2_putClusterTime
set_option maxRecDepth 20000 in
theorem ggX2_putClusters_X2_packetsOfBlock : GoodIn wsX2_putClusters wsX2_packetsOfBlock := goodIn_r _ [72, 1, 2, 73, 74, 75, 76, 77, 7, 78, 79, 15, 16, 17, 18, 19, 80, 81, 82, 83, 118, 119, 120, 121, 122, 123, 124, 125, 126, 127] (by decide +kernel) (by decide +kernel)
set_option maxRecDepth 20000 in
theorem gX2_putClusters_X2_packetsOfBlock : GoodIn wsX2_putClusters (wsV RX2 89 RX2 yX2_packetsOfBlock wsX2_packetsOfBlock) := goodIn_app (goodIn_of _ (by decide +kernel)) ggX2_putClusters_X2_packetsOfBlock
set_option maxRecDepth 20000 in
theorem ggX2_putClusters_X2_putBlock : GoodIn wsX2_putClusters wsX2_putBlock := goodIn_r _ [87, 74, 88, 1, 32, 33, 89, 90, 91, 92, 37, 93, 39, 54, 56, 50, 51, 52, 53, 55, 35, 36, 38, 40, 45, 46, 47, 48, 49, 75, 76, 77, 7, 78, 79, 15, 16, 17, 18, 19, 80, 81, 82, 83, 94, 95, 96, 22, 97, 61, 62, 63, 64, 65, 66, 67, 68, 98, 99, 100, 101, 102, 103, 104, 105, 106, 107, 108, 109, 110, 111, 112, 113, 114, 115, 116, 117, 118, 119, 120, 121, 122, 123, 128, 129, 130, 131, 124, 125, 126, 127] (by decide +kernel) (by decide +kernel)
set_option maxRecDepth 20000 in
theorem gX2_putClusters_X2_putBlock : GoodIn wsX2_putClusters (wsV RX2 92 RX2 yX2_putBlock wsX2_putBlock) := goodIn_app (goodIn_of _ (by decide +kernel)) ggX2_putClusters_X2_putBlock
theorem dX2_putClusters_0 : decode cX2_putClusters 0 = .ok (.iconst (-1), 1) := by decide +kernel
theorem dX2_putClusters_1 : decode cX2_putClusters 1 = .ok (.istore_n 2, 1) := by decide +kernel
theorem dX2_putClusters_2 : decode cX2_putClusters 2 = .ok (.lconst 0, 1) := by decide +kernel
theorem dX2_putClusters_3 : decode cX2_putClusters 3 = .ok (.lstore_n 3, 1) := by decide +kernel
theorem dX2_putClusters_4 : decode cX2_putClusters 4 = .ok (.iconst 0, 1) := by decide +kernel
theorem dX2_putClusters_5 : decode cX2_putClusters 5 = .ok (.istore 5, 2) := by decide +kernel
theorem dX2_putClusters_7 : decode cX2_putClusters 7 = .ok (.iconst 0, 1) := by decide +kernel
theorem dX2_putClusters_8 : decode cX2_putClusters 8 = .ok (.istore 6, 2) := by decide +kernel
theorem dX2_putClusters_10 : decode cX2_putClusters 10 = .ok (.iconst 0, 1) := by decide +kernel
theorem dX2_putClusters_11 : decode cX2_putClusters 11 = .ok (.istore 7, 2) := by decide +kernel
theorem dX2_putClusters_13 : decode cX2_putClusters 13 = .ok (.iload 7, 2) := by decide +kernel
theorem dX2_putClusters_15 : decode cX2_putClusters 15 = .ok (.aload_n 0, 1) := by decide +kernel
theorem dX2_putClusters_16 : decode cX2_putClusters 16 = .ok (.getfield 20, 3) := by decide +kernel
theorem dX2_putClusters_19 : decode cX2_putClusters 19 = .ok (.getfield 71, 3) := by decide +kernel
theorem dX2_putClusters_22 : decode cX2_putClusters 22 = .ok (.if_icmp .ge 106, 3) := by decide +kernel
theorem dX2_putClusters_25 : decode cX2_putClusters 25 = .ok (.iload 6, 2) := by decide +kernel
theorem dX2_putClusters_27 : decode cX2_putClusters 27 = .ok (.aload_n 0, 1) := by decide +kernel
theorem dX2_putClusters_28 : decode cX2_putClusters 28 = .ok (.getfield 20, 3) := by decide +kernel
theorem dX2_putClusters_31 : decode cX2_putClusters 31 = .ok (.getfield 71, 3) := by decide +kernel
theorem dX2_putClusters_34 : decode cX2_putClusters 34 = .ok (.if_icmp .ge 94, 3) := by decide +kernel
theorem dX2_putClusters_37 : decode cX2_putClusters 37 = .ok (.aload_n 0, 1) := by decide +kernel
theorem dX2_putClusters_38 : decode cX2_putClusters 38 = .ok (.getfield 20, 3) := by decide +kernel
theorem dX2_putClusters_41 : decode cX2_putClusters 41 = .ok (.iload 6, 2) := by decide +kernel
theorem dX2_putClusters_43 : decode cX2_putClusters 43 = .ok (.invokevirtual 76, 3) := by decide +kernel
theorem dX2_putClusters_46 : decode cX2_putClusters 46 = .ok (.lstore 8, 2) := by decide +kernel
theorem dX2_putClusters_48 : decode cX2_putClusters 48 = .ok (.iload_n 2, 1) := by decide +kernel
theorem dX2_putClusters_49 : decode cX2_putClusters 49 = .ok (.iconst (-1), 1) := by decide +kernel
theorem dX2_putClusters_50 : decode cX2_putClusters 50 = .ok (.if_icmp .eq 19, 3) := by decide +kernel
theorem dX2_putClusters_53 : decode cX2_putClusters 53 = .ok (.iload 5, 2) := by decide +kernel
theorem dX2_putClusters_55 : decode cX2_putClusters 55 = .ok (.iload_n 1, 1) := by decide +kernel
theorem dX2_putClusters_56 : decode cX2_putClusters 56 = .ok (.if_icmp .ge 13, 3) := by decide +kernel
theorem dX2_putClusters_59 : decode cX2_putClusters 59 = .ok (.lload 8, 2) := by decide +kernel
theorem dX2_putClusters_61 : decode cX2_putClusters 61 = .ok (.lload_n 3, 1) := by decide +kernel
theorem dX2_putClusters_62 : decode cX2_putClusters 62 = .ok (.lsub, 1) := by decide +kernel
theorem dX2_putClusters_63 : decode cX2_putClusters 63 = .ok (.invokestatic 80, 3) := by decide +kernel
theorem dX2_putClusters_66 : decode cX2_putClusters 66 = .ok (.ifCond .ne 26, 3) := by decide +kernel
theorem dX2_putClusters_69 : decode cX2_putClusters 69 = .ok (.aload_n 0, 1) := by decide +kernel
theorem dX2_putClusters_70 : decode cX2_putClusters 70 = .ok (.iload_n 2, 1) := by decide +kernel
theorem dX2_putClusters_71 : decode cX2_putClusters 71 = .ok (.invokevirtual 68, 3) := by decide +kernel
theorem dX2_putClusters_74 : decode cX2_putClusters 74 = .ok (.aload_n 0, 1) := by decide +kernel
theorem dX2_putClusters_75 : decode cX2_putClusters 75 = .ok (.ldc 84, 2) := by decide +kernel
theorem dX2_putClusters_77 : decode cX2_putClusters 77 = .ok (.invokevirtual 49, 3) := by decide +kernel
theorem dX2_putClusters_80 : decode cX2_putClusters 80 = .ok (.istore_n 2, 1) := by decide +kernel
theorem dX2_putClusters_81 : decode cX2_putClusters 81 = .ok (.lload 8, 2) := by decide +kernel
theorem dX2_putClusters_83 : decode cX2_putClusters 83 = .ok (.lstore_n 3, 1) := by decide +kernel
theorem dX2_putClusters_84 : decode cX2_putClusters 84 = .ok (.iconst 0, 1) := by decide +kernel
theorem dX2_putClusters_85 : decode cX2_putClusters 85 = .ok (.istore 5, 2) := by decide +kernel
theorem dX2_putClusters_87 : decode cX2_putClusters 87 = .ok (.aload_n 0, 1) := by decide +kernel
theorem dX2_putClusters_88 : decode cX2_putClusters 88 = .ok (.lload_n 3, 1) := by decide +kernel
theorem dX2_putClusters_89 : decode cX2_putClusters 89 = .ok (.invokevirtual 85, 3) := by decide +kernel
theorem dX2_putClusters_92 : decode cX2_putClusters 92 = .ok (.aload_n 0, 1) := by decide +kernel
theorem dX2_putClusters_93 : decode cX2_putClusters 93 = .ok (.iload 6, 2) := by decide +kernel
theorem dX2_putClusters_95 : decode cX2_putClusters 95 = .ok (.invokevirtual 89, 3) := by decide +kernel
theorem dX2_putClusters_98 : decode cX2_putClusters 98 = .ok (.istore 10, 2) := by decide +kernel
theorem dX2_putClusters_100 : decode cX2_putClusters 100 = .ok (.aload_n 0, 1) := by decide +kernel
theorem dX2_putClusters_101 : decode cX2_putClusters 101 = .ok (.iload 6, 2) := by decide +kernel
theorem dX2_putClusters_103 : decode cX2_putClusters 103 = .ok (.iload 10, 2) := by decide +kernel
theorem dX2_putClusters_105 : decode cX2_putClusters 105 = .ok (.lload 8, 2) := by decide +kernel
theorem dX2_putClusters_107 : decode cX2_putClusters 107 = .ok (.lload_n 3, 1) := by decide +kernel
theorem dX2_putClusters_108 : decode cX2_putClusters 108 = .ok (.lsub, 1) := by decide +kernel
theorem dX2_putClusters_109 : decode cX2_putClusters 109 = .ok (.invokevirtual 92, 3) := by decide +kernel
theorem dX2_putClusters_112 : decode cX2_putClusters 112 = .ok (.iinc 5 1, 3) := by decide +kernel
theorem dX2_putClusters_115 : decode cX2_putClusters 115 = .ok (.iload 6, 2) := by decide +kernel
theorem dX2_putClusters_117 : decode cX2_putClusters 117 = .ok (.iload 10, 2) := by decide +kernel
theorem dX2_putClusters_119 : decode cX2_putClusters 119 = .ok (.iadd, 1) := by decide +kernel
theorem dX2_putClusters_120 : decode cX2_putClusters 120 = .ok (.istore 6, 2) := by decide +kernel
theorem dX2_putClusters_122 : decode cX2_putClusters 122 = .ok (.iinc 7 1, 3) := by decide +kernel
theorem dX2_putClusters_125 : decode cX2_putClusters 125 = .ok (.goto (-112), 3) := by decide +kernel
theorem dX2_putClusters_128 : decode cX2_putClusters 128 = .ok (.aload_n 0, 1) := by decide +kernel
theorem dX2_putClusters_129 : decode cX2_putClusters 129 = .ok (.iload_n 2, 1) := by decide +kernel
theorem dX2_putClusters_130 : decode cX2_putClusters 130 = .ok (.invokevirtual 68, 3) := by decide +kernel
theorem dX2_putClusters_133 : decode cX2_putClusters 133 = .ok (.return_, 1) := by decide +kernel
theorem dX2_fitsBlock_0 : decode cX2_fitsBlock 0 = .ok (.lload_n 0, 1) := by decide +kernel
theorem dX2_fitsBlock_1 : decode cX2_fitsBlock 1 = .ok (.ldc2_w 96, 3) := by decide +kernel
theorem dX2_fitsBlock_4 : decode cX2_fitsBlock 4 = .ok (.lcmp, 1) := by decide +kernel
theorem dX2_fitsBlock_5 : decode cX2_fitsBlock 5 = .ok (.ifCond .lt 15, 3) := by decide +kernel
theorem dX2_fitsBlock_8 : decode cX2_fitsBlock 8 = .ok (.lload_n 0, 1) := by decide +kernel
theorem dX2_fitsBlock_9 : decode cX2_fitsBlock 9 = .ok (.ldc2_w 98, 3) := by decide +kernel
theorem dX2_fitsBlock_12 : decode cX2_fitsBlock 12 = .ok (.lcmp, 1) := by decide +kernel
theorem dX2_fitsBlock_13 : decode cX2_fitsBlock 13 = .ok (.ifCond .gt 7, 3) := by decide +kernel
theorem dX2_fitsBlock_16 : decode cX2_fitsBlock 16 = .ok (.iconst 1, 1) := by decide +kernel
theorem dX2_fitsBlock_17 : decode cX2_fitsBlock 17 = .ok (.goto 4, 3) := by decide +kernel
theorem dX2_fitsBlock_20 : decode cX2_fitsBlock 20 = .ok (.iconst 0, 1) := by decide +kernel
theorem dX2_fitsBlock_21 : decode cX2_fitsBlock 21 = .ok (.ireturn, 1) := by decide +kernel
set_option maxRecDepth 20000 in
theorem ggX2_beginLongElement_X8_addHighFirst : GoodIn wsX2_beginLongElement wsX8_addHighFirst := goodIn_r _ [8, 9, 10, 11, 7, 12, 13, 14, 15, 16, 17, 18, 19, 20, 28, 29, 30, 31] (by decide +kernel) (by decide +kernel)
set_option maxRecDepth 20000 in
theorem gX2_beginLongElement_X8_addHighFirst : GoodIn wsX2_beginLongElement (wsV RX2 100 RX8 yX8_addHighFirst wsX8_addHighFirst) := goodIn_app (goodIn_of _ (by decide +kernel)) ggX2_beginLongElement_X8_addHighFirst
set_option maxRecDepth 20000 in
theorem ggX2_beginLongElement_X8_add : GoodIn wsX2_beginLongElement wsX8_add := goodIn_r _ [12, 13, 14, 15, 16, 17, 18, 7, 19, 20, 28, 29, 30, 31] (by decide +kernel) (by decide +kernel)
set_option maxRecDepth 20000 in
theorem gX2_beginLongElement_X8_add : GoodIn wsX2_beginLongElement (wsV RX2 59 RX8 yX8_add wsX8_add) := goodIn_app (goodIn_of _ (by decide +kernel)) ggX2_beginLongElement_X8_add
theorem dX2_beginLongElement_0 : decode cX2_beginLongElement 0 = .ok (.aload_n 0, 1) := by decide +kernel
theorem dX2_beginLongElement_1 : decode cX2_beginLongElement 1 = .ok (.getfield 24, 3) := by decide +kernel
theorem dX2_beginLongElement_4 : decode cX2_beginLongElement 4 = .ok (.iload_n 1, 1) := by decide +kernel
theorem dX2_beginLongElement_5 : decode cX2_beginLongElement 5 = .ok (.i2l, 1) := by decide +kernel
theorem dX2_beginLongElement_6 : decode cX2_beginLongElement 6 = .ok (.iconst 4, 1) := by decide +kernel
theorem dX2_beginLongElement_7 : decode cX2_beginLongElement 7 = .ok (.invokevirtual 100, 3) := by decide +kernel
theorem dX2_beginLongElement_10 : decode cX2_beginLongElement 10 = .ok (.aload_n 0, 1) := by decide +kernel
theorem dX2_beginLongElement_11 : decode cX2_beginLongElement 11 = .ok (.getfield 34, 3) := by decide +kernel
theorem dX2_beginLongElement_14 : decode cX2_beginLongElement 14 = .ok (.ifCond .eq 16, 3) := by decide +kernel
theorem dX2_beginLongElement_17 : decode cX2_beginLongElement 17 = .ok (.aload_n 0, 1) := by decide +kernel
theorem dX2_beginLongElement_18 : decode cX2_beginLongElement 18 = .ok (.getfield 24, 3) := by decide +kernel
theorem dX2_beginLongElement_21 : decode cX2_beginLongElement 21 = .ok (.sipush 255, 3) := by decide +kernel
theorem dX2_beginLongElement_24 : decode cX2_beginLongElement 24 = .ok (.invokevirtual 59, 3) := by decide +kernel
theorem dX2_beginLongElement_27 : decode cX2_beginLongElement 27 = .ok (.goto 12, 3) := by decide +kernel
theorem dX2_beginLongElement_30 : decode cX2_beginLongElement 30 = .ok (.aload_n 0, 1) := by decide +kernel
theorem dX2_beginLongElement_31 : decode cX2_beginLongElement 31 = .ok (.getfield 24, 3) := by decide +kernel
theorem dX2_beginLongElement_34 : decode cX2_beginLongElement 34 = .ok (.lconst 0, 1) := by decide +kernel
theorem dX2_beginLongElement_35 : decode cX2_beginLongElement 35 = .ok (.iconst 4, 1) := by decide +kernel
theorem dX2_beginLongElement_36 : decode cX2_beginLongElement 36 = .ok (.invokevirtual 100, 3) := by decide +kernel
theorem dX2_beginLongElement_39 : decode cX2_beginLongElement 39 = .ok (.aload_n 0, 1) := by decide +kernel
theorem dX2_beginLongElement_40 : decode cX2_beginLongElement 40 = .ok (.getfield 24, 3) := by decide +kernel
theorem dX2_beginLongElement_43 : decode cX2_beginLongElement 43 = .ok (.getfield 104, 3) := by decide +kernel
theorem dX2_beginLongElement_46 : decode cX2_beginLongElement 46 = .ok (.ireturn, 1) := by decide +kernel
set_option maxRecDepth 20000 in
theorem ggX2_endLongElement_X8_change : GoodIn wsX2_endLongElement wsX8_change := goodIn_r _ [9, 10, 11, 18, 19, 20, 21] (by decide +kernel) (by decide +kernel)
set_option maxRecDepth 20000 in
theorem gX2_endLongElement_X8_change : GoodIn wsX2_endLongElement (wsV RX2 108 RX8 yX8_change wsX8_change) := goodIn_app (goodIn_of _ (by decide +kernel)) ggX2_endLongElement_X8_change
theorem dX2_endLongElement_0 : decode cX2_endLongElement 0 = .ok (.iload_n 1, 1) := by decide +kernel
theorem dX2_endLongElement_1 : decode cX2_endLongElement 1 = .ok (.iconst (-1), 1) := by decide +kernel
theorem dX2_endLongElement_2 : decode cX2_endLongElement 2 = .ok (.if_icmp .eq 10, 3) := by decide +kernel
theorem dX2_endLongElement_5 : decode cX2_endLongElement 5 = .ok (.aload_n 0, 1) := by decide +kernel
theorem dX2_endLongElement_6 : decode cX2_endLongElement 6 = .ok (.getfield 34, 3) := by decide +kernel
theorem dX2_endLongElement_9 : decode cX2_endLongElement 9 = .ok (.ifCond .eq 4, 3) := by decide +kernel
theorem dX2_endLongElement_12 : decode cX2_endLongElement 12 = .ok (.return_, 1) := by decide +kernel
theorem dX2_endLongElement_13 : decode cX2_endLongElement 13 = .ok (.ldc 107, 2) := by decide +kernel
theorem dX2_endLongElement_15 : decode cX2_endLongElement 15 = .ok (.aload_n 0, 1) := by decide +kernel
theorem dX2_endLongElement_16 : decode cX2_endLongElement 16 = .ok (.getfield 24, 3) := by decide +kernel
theorem dX2_endLongElement_19 : decode cX2_endLongElement 19 = .ok (.getfield 104, 3) := by decide +kernel
theorem dX2_endLongElement_22 : decode cX2_endLongElement 22 = .ok (.iload_n 1, 1) := by decide +kernel
theorem dX2_endLongElement_23 : decode cX2_endLongElement 23 = .ok (.isub, 1) := by decide +kernel
theorem dX2_endLongElement_24 : decode cX2_endLongElement 24 = .ok (.ior, 1) := by decide +kernel
theorem dX2_endLongElement_25 : decode cX2_endLongElement 25 = .ok (.istore_n 2, 1) := by decide +kernel
theorem dX2_endLongElement_26 : decode cX2_endLongElement 26 = .ok (.iconst 0, 1) := by decide +kernel
theorem dX2_endLongElement_27 : decode cX2_endLongElement 27 = .ok (.istore_n 3, 1) := by decide +kernel
theorem dX2_endLongElement_28 : decode cX2_endLongElement 28 = .ok (.iload_n 3, 1) := by decide +kernel
theorem dX2_endLongElement_29 : decode cX2_endLongElement 29 = .ok (.iconst 4, 1) := by decide +kernel
theorem dX2_endLongElement_30 : decode cX2_endLongElement 30 = .ok (.if_icmp .ge 28, 3) := by decide +kernel
theorem dX2_endLongElement_33 : decode cX2_endLongElement 33 = .ok (.aload_n 0, 1) := by decide +kernel
theorem dX2_endLongElement_34 : decode cX2_endLongElement 34 = .ok (.getfield 24, 3) := by decide +kernel
theorem dX2_endLongElement_37 : decode cX2_endLongElement 37 = .ok (.iload_n 1, 1) := by decide +kernel
theorem dX2_endLongElement_38 : decode cX2_endLongElement 38 = .ok (.iconst 1, 1) := by decide +kernel
theorem dX2_endLongElement_39 : decode cX2_endLongElement 39 = .ok (.isub, 1) := by decide +kernel
theorem dX2_endLongElement_40 : decode cX2_endLongElement 40 = .ok (.iload_n 3, 1) := by decide +kernel
theorem dX2_endLongElement_41 : decode cX2_endLongElement 41 = .ok (.isub, 1) := by decide +kernel
theorem dX2_endLongElement_42 : decode cX2_endLongElement 42 = .ok (.iload_n 2, 1) := by decide +kernel
theorem dX2_endLongElement_43 : decode cX2_endLongElement 43 = .ok (.bipush 8, 2) := by decide +kernel
theorem dX2_endLongElement_45 : decode cX2_endLongElement 45 = .ok (.iload_n 3, 1) := by decide +kernel
theorem dX2_endLongElement_46 : decode cX2_endLongElement 46 = .ok (.imul, 1) := by decide +kernel
theorem dX2_endLongElement_47 : decode cX2_endLongElement 47 = .ok (.iushr, 1) := by decide +kernel
theorem dX2_endLongElement_48 : decode cX2_endLongElement 48 = .ok (.invokevirtual 108, 3) := by decide +kernel
theorem dX2_endLongElement_51 : decode cX2_endLongElement 51 = .ok (.pop, 1) := by decide +kernel
theorem dX2_endLongElement_52 : decode cX2_endLongElement 52 = .ok (.iinc 3 1, 3) := by decide +kernel
theorem dX2_endLongElement_55 : decode cX2_endLongElement 55 = .ok (.goto (-27), 3) := by decide +kernel
theorem dX2_endLongElement_58 : decode cX2_endLongElement 58 = .ok (.return_, 1) := by decide +kernel
set_option maxRecDepth 20000 in
theorem ggX2_putClusterTime_X8_add : GoodIn wsX2_putClusterTime wsX8_add := goodIn_r _ [6, 7, 8, 9, 10, 11, 12, 5, 13, 14, 35, 36, 37, 38] (by decide +kernel) (by decide +kernel)
set_option maxRecDepth 20000 in
theorem gX2_putClusterTime_X8_add : GoodIn wsX2_putClusterTime (wsV RX2 59 RX8 yX8_add wsX8_add) := goodIn_app (goodIn_of _ (by decide +kernel)) ggX2_putClusterTime_X8_add
set_option maxRecDepth 20000 in
theorem ggX2_putClusterTime_X2_putSize : GoodIn wsX2_putClusterTime wsX2_putSize := goodIn_r _ [18, 19, 20, 21, 22, 23, 24, 25, 26, 5, 27, 28, 3, 4, 6, 7, 8, 9, 10, 11, 12, 13, 14, 35, 36, 37, 38] (by decide +kernel) (by decide +kernel)
set_option maxRecDepth 20000 in
theorem gX2_putClusterTime_X2_putSize : GoodIn wsX2_putClusterTime (va_wsS RX2 112 yX2_putSize wsX2_putSize) := goodIn_app (goodIn_of _ (by decide +kernel)) ggX2_putClusterTime_X2_putSize
set_option maxRecDepth 20000 in
theorem ggX2_putClusterTime_X8_addHighFirst : GoodIn wsX2_putClusterTime wsX8_addHighFirst := goodIn_r _ [27, 28, 3, 4, 5, 6, 7, 8, 9, 10, 11, 12, 13, 14, 35, 36, 37, 38] (by decide +kernel) (by decide +kernel)
set_option maxRecDepth 20000 in
theorem gX2_putClusterTime_X8_addHighFirst : GoodIn wsX2_putClusterTime (wsV RX2 100 RX8 yX8_addHighFirst wsX8_addHighFirst) := goodIn_app (goodIn_of _ (by decide +kernel)) ggX2_putClusterTime_X8_addHighFirst
theorem dX2_putClusterTime_0 : decode cX2_putClusterTime 0 = .ok (.iconst 1, 1) := by decide +kernel
theorem dX2_putClusterTime_1 : decode cX2_putClusterTime 1 = .ok (.istore_n 3, 1) := by decide +kernel
theorem dX2_putClusterTime_2 : decode cX2_putClusterTime 2 = .ok (.iconst 2, 1) := by decide +kernel
theorem dX2_putClusterTime_3 : decode cX2_putClusterTime 3 = .ok (.istore 4, 2) := by decide +kernel
theorem dX2_putClusterTime_5 : decode cX2_putClusterTime 5 = .ok (.iload 4, 2) := by decide +kernel
theorem dX2_putClusterTime_7 : decode cX2_putClusterTime 7 = .ok (.bipush 8, 2) := by decide +kernel
theorem dX2_putClusterTime_9 : decode cX2_putClusterTime 9 = .ok (.if_icmp .gt 26, 3) := by decide +kernel
theorem dX2_putClusterTime_12 : decode cX2_putClusterTime 12 = .ok (.lload_n 1, 1) := by decide +kernel
theorem dX2_putClusterTime_13 : decode cX2_putClusterTime 13 = .ok (.bipush 8, 2) := by decide +kernel
theorem dX2_putClusterTime_15 : decode cX2_putClusterTime 15 = .ok (.iload 4, 2) := by decide +kernel
theorem dX2_putClusterTime_17 : decode cX2_putClusterTime 17 = .ok (.iconst 1, 1) := by decide +kernel
theorem dX2_putClusterTime_18 : decode cX2_putClusterTime 18 = .ok (.isub, 1) := by decide +kernel
theorem dX2_putClusterTime_19 : decode cX2_putClusterTime 19 = .ok (.imul, 1) := by decide +kernel
theorem dX2_putClusterTime_20 : decode cX2_putClusterTime 20 = .ok (.lushr, 1) := by decide +kernel
theorem dX2_putClusterTime_21 : decode cX2_putClusterTime 21 = .ok (.lconst 0, 1) := by decide +kernel
theorem dX2_putClusterTime_22 : decode cX2_putClusterTime 22 = .ok (.lcmp, 1) := by decide +kernel
theorem dX2_putClusterTime_23 : decode cX2_putClusterTime 23 = .ok (.ifCond .eq 6, 3) := by decide +kernel
theorem dX2_putClusterTime_26 : decode cX2_putClusterTime 26 = .ok (.iload 4, 2) := by decide +kernel
theorem dX2_putClusterTime_28 : decode cX2_putClusterTime 28 = .ok (.istore_n 3, 1) := by decide +kernel
theorem dX2_putClusterTime_29 : decode cX2_putClusterTime 29 = .ok (.iinc 4 1, 3) := by decide +kernel
theorem dX2_putClusterTime_32 : decode cX2_putClusterTime 32 = .ok (.goto (-27), 3) := by decide +kernel
theorem dX2_putClusterTime_35 : decode cX2_putClusterTime 35 = .ok (.aload_n 0, 1) := by decide +kernel
theorem dX2_putClusterTime_36 : decode cX2_putClusterTime 36 = .ok (.getfield 24, 3) := by decide +kernel
theorem dX2_putClusterTime_39 : decode cX2_putClusterTime 39 = .ok (.sipush 231, 3) := by decide +kernel
theorem dX2_putClusterTime_42 : decode cX2_putClusterTime 42 = .ok (.invokevirtual 59, 3) := by decide +kernel
theorem dX2_putClusterTime_45 : decode cX2_putClusterTime 45 = .ok (.aload_n 0, 1) := by decide +kernel
theorem dX2_putClusterTime_46 : decode cX2_putClusterTime 46 = .ok (.getfield 24, 3) := by decide +kernel
theorem dX2_putClusterTime_49 : decode cX2_putClusterTime 49 = .ok (.iload_n 3, 1) := by decide +kernel
theorem dX2_putClusterTime_50 : decode cX2_putClusterTime 50 = .ok (.i2l, 1) := by decide +kernel
theorem dX2_putClusterTime_51 : decode cX2_putClusterTime 51 = .ok (.invokestatic 112, 3) := by decide +kernel
theorem dX2_putClusterTime_54 : decode cX2_putClusterTime 54 = .ok (.aload_n 0, 1) := by decide +kernel
theorem dX2_putClusterTime_55 : decode cX2_putClusterTime 55 = .ok (.getfield 24, 3) := by decide +kernel
theorem dX2_putClusterTime_58 : decode cX2_putClusterTime 58 = .ok (.lload_n 1, 1) := by decide +kernel
theorem dX2_putClusterTime_59 : decode cX2_putClusterTime 59 = .ok (.iload_n 3, 1) := by decide +kernel
theorem dX2_putClusterTime_60 : decode cX2_putClusterTime 60 = .ok (.invokevirtual 100, 3) := by decide +kernel
theorem dX2_putClusterTime_63 : decode cX2_putClusterTime 63 = .ok (.return_, 1) := by decide +kernel
set_option maxRecDepth 20000 in
theorem ggX2_packetsOfBlock_X4_bytesOf : GoodIn wsX2_packetsOfBlock wsX4_bytesOf := goodIn_r _ [9, 10, 11, 12, 13, 8, 14, 15, 16, 17, 18, 19, 26, 27, 28, 29] (by decide +kernel) (by decide +kernel)
set_option maxRecDepth 20000 in
theorem gX2_packetsOfBlock_X4_bytesOf : GoodIn wsX2_packetsOfBlock (wsV RX2 116 RX4 yX4_bytesOf wsX4_bytesOf) := goodIn_app (goodIn_of _ (by decide +kernel)) ggX2_packetsOfBlock_X4_bytesOf
theorem dX2_packetsOfBlock_0 : decode cX2_packetsOfBlock 0 = .ok (.iconst 1, 1) := by decide +kernel
theorem dX2_packetsOfBlock_1 : decode cX2_packetsOfBlock 1 = .ok (.istore_n 2, 1) := by decide +kernel
theorem dX2_packetsOfBlock_2 : decode cX2_packetsOfBlock 2 = .ok (.iload_n 1, 1) := by decide +kernel
theorem dX2_packetsOfBlock_3 : decode cX2_packetsOfBlock 3 = .ok (.iconst 1, 1) := by decide +kernel
theorem dX2_packetsOfBlock_4 : decode cX2_packetsOfBlock 4 = .ok (.iadd, 1) := by decide +kernel
theorem dX2_packetsOfBlock_5 : decode cX2_packetsOfBlock 5 = .ok (.istore_n 3, 1) := by decide +kernel
theorem dX2_packetsOfBlock_6 : decode cX2_packetsOfBlock 6 = .ok (.iload_n 3, 1) := by decide +kernel
theorem dX2_packetsOfBlock_7 : decode cX2_packetsOfBlock 7 = .ok (.aload_n 0, 1) := by decide +kernel
theorem dX2_packetsOfBlock_8 : decode cX2_packetsOfBlock 8 = .ok (.getfield 20, 3) := by decide +kernel
theorem dX2_packetsOfBlock_11 : decode cX2_packetsOfBlock 11 = .ok (.getfield 71, 3) := by decide +kernel
theorem dX2_packetsOfBlock_14 : decode cX2_packetsOfBlock 14 = .ok (.if_icmp .ge 50, 3) := by decide +kernel
theorem dX2_packetsOfBlock_17 : decode cX2_packetsOfBlock 17 = .ok (.iload_n 2, 1) := by decide +kernel
theorem dX2_packetsOfBlock_18 : decode cX2_packetsOfBlock 18 = .ok (.aload_n 0, 1) := by decide +kernel
theorem dX2_packetsOfBlock_19 : decode cX2_packetsOfBlock 19 = .ok (.getfield 31, 3) := by decide +kernel
theorem dX2_packetsOfBlock_22 : decode cX2_packetsOfBlock 22 = .ok (.if_icmp .ge 42, 3) := by decide +kernel
theorem dX2_packetsOfBlock_25 : decode cX2_packetsOfBlock 25 = .ok (.aload_n 0, 1) := by decide +kernel
theorem dX2_packetsOfBlock_26 : decode cX2_packetsOfBlock 26 = .ok (.getfield 27, 3) := by decide +kernel
theorem dX2_packetsOfBlock_29 : decode cX2_packetsOfBlock 29 = .ok (.iconst 2, 1) := by decide +kernel
theorem dX2_packetsOfBlock_30 : decode cX2_packetsOfBlock 30 = .ok (.if_icmp .ne 25, 3) := by decide +kernel
theorem dX2_packetsOfBlock_33 : decode cX2_packetsOfBlock 33 = .ok (.aload_n 0, 1) := by decide +kernel
theorem dX2_packetsOfBlock_34 : decode cX2_packetsOfBlock 34 = .ok (.getfield 20, 3) := by decide +kernel
theorem dX2_packetsOfBlock_37 : decode cX2_packetsOfBlock 37 = .ok (.iload_n 3, 1) := by decide +kernel
theorem dX2_packetsOfBlock_38 : decode cX2_packetsOfBlock 38 = .ok (.invokevirtual 116, 3) := by decide +kernel
theorem dX2_packetsOfBlock_41 : decode cX2_packetsOfBlock 41 = .ok (.aload_n 0, 1) := by decide +kernel
theorem dX2_packetsOfBlock_42 : decode cX2_packetsOfBlock 42 = .ok (.getfield 20, 3) := by decide +kernel
theorem dX2_packetsOfBlock_45 : decode cX2_packetsOfBlock 45 = .ok (.iload_n 1, 1) := by decide +kernel
theorem dX2_packetsOfBlock_46 : decode cX2_packetsOfBlock 46 = .ok (.invokevirtual 116, 3) := by decide +kernel
theorem dX2_packetsOfBlock_49 : decode cX2_packetsOfBlock 49 = .ok (.if_icmp .eq 6, 3) := by decide +kernel
theorem dX2_packetsOfBlock_52 : decode cX2_packetsOfBlock 52 = .ok (.goto 12, 3) := by decide +kernel
theorem dX2_packetsOfBlock_55 : decode cX2_packetsOfBlock 55 = .ok (.iinc 2 1, 3) := by decide +kernel
theorem dX2_packetsOfBlock_58 : decode cX2_packetsOfBlock 58 = .ok (.iinc 3 1, 3) := by decide +kernel
theorem dX2_packetsOfBlock_61 : decode cX2_packetsOfBlock 61 = .ok (.goto (-55), 3) := by decide +kernel
theorem dX2_packetsOfBlock_64 : decode cX2_packetsOfBlock 64 = .ok (.iload_n 2, 1) := by decide +kernel
theorem dX2_packetsOfBlock_65 : decode cX2_packetsOfBlock 65 = .ok (.ireturn, 1) := by decide +kernel
set_option maxRecDepth 20000 in
theorem ggX2_putBlock_X8_empty : GoodIn wsX2_putBlock wsX8_empty := goodIn_r _ [11, 12, 13, 83, 84, 85, 86] (by decide +kernel) (by decide +kernel)
set_option maxRecDepth 20000 in
theorem gX2_putBlock_X8_empty : GoodIn wsX2_putBlock (wsV RX2 119 RX8 yX8_empty wsX8_empty) := goodIn_app (goodIn_of _ (by decide +kernel)) ggX2_putBlock_X8_empty
set_option maxRecDepth 20000 in
theorem ggX2_putBlock_X8_add : GoodIn wsX2_putBlock wsX8_add := goodIn_r _ [17, 12, 18, 13, 19, 20, 21, 10, 22, 23, 83, 84, 85, 86] (by decide +kernel) (by decide +kernel)
set_option maxRecDepth 20000 in
theorem gX2_putBlock_X8_add : GoodIn wsX2_putBlock (wsV RX2 59 RX8 yX8_add wsX8_add) := goodIn_app (goodIn_of _ (by decide +kernel)) ggX2_putBlock_X8_add
set_option maxRecDepth 20000 in
theorem ggX2_putBlock_X8_addHighFirst : GoodIn wsX2_putBlock wsX8_addHighFirst := goodIn_r _ [27, 28, 15, 16, 10, 17, 12, 18, 13, 19, 20, 21, 22, 23, 83, 84, 85, 86] (by decide +kernel) (by decide +kernel)
set_option maxRecDepth 20000 in
theorem gX2_putBlock_X8_addHighFirst : GoodIn wsX2_putBlock (wsV RX2 100 RX8 yX8_addHighFirst wsX8_addHighFirst) := goodIn_app (goodIn_of _ (by decide +kernel)) ggX2_putBlock_X8_addHighFirst
set_option maxRecDepth 20000 in
theorem ggX2_putBlock_X4_bytesOf : GoodIn wsX2_putBlock wsX4_bytesOf := goodIn_r _ [33, 34, 35, 36, 37, 32, 38, 39, 40, 41, 42, 43, 87, 88, 89, 90] (by decide +kernel) (by decide +kernel)
set_option maxRecDepth 20000 in
theorem gX2_putBlock_X4_bytesOf : GoodIn wsX2_putBlock (wsV RX2 116 RX4 yX4_bytesOf wsX4_bytesOf) := goodIn_app (goodIn_of _ (by decide +kernel)) ggX2_putBlock_X4_bytesOf
set_option maxRecDepth 20000 in
theorem ggX2_putBlock_X2_putSummedSize : GoodIn wsX2_putBlock wsX2_putSummedSize := goodIn_r _ [48, 2, 14, 15, 16, 10, 17, 12, 18, 13, 19, 20, 21, 22, 23, 77, 78, 79, 80, 81, 82, 83, 84, 85, 86] (by decide +kernel) (by decide +kernel)
set_option maxRecDepth 20000 in
theorem gX2_putBlock_X2_putSummedSize : GoodIn wsX2_putBlock (wsV RX2 122 RX2 yX2_putSummedSize wsX2_putSummedSize) := goodIn_app (goodIn_of _ (by decide +kernel)) ggX2_putBlock_X2_putSummedSize
set_option maxRecDepth 20000 in
theorem ggX2_putBlock_X2_putSize : GoodIn wsX2_putBlock wsX2_putSize := goodIn_r _ [51, 52, 53, 54, 55, 56, 24, 25, 26, 10, 27, 28, 15, 16, 17, 12, 18, 13, 19, 20, 21, 22, 23, 83, 84, 85, 86] (by decide +kernel) (by decide +kernel)
set_option maxRecDepth 20000 in
theorem gX2_putBlock_X2_putSize : GoodIn wsX2_putBlock (va_wsS RX2 112 yX2_putSize wsX2_putSize) := goodIn_app (goodIn_of _ (by decide +kernel)) ggX2_putBlock_X2_putSize
set_option maxRecDepth 20000 in
theorem ggX2_putBlock_X2_putDifference : GoodIn wsX2_putBlock wsX2_putDifference := goodIn_r _ [60, 61, 62, 63, 64, 2, 65, 66, 54, 67, 24, 25, 26, 10, 27, 28, 15, 16, 17, 12, 18, 13, 19, 20, 21, 22, 23, 77, 78, 79, 80, 81, 82, 83, 84, 85, 86] (by decide +kernel) (by decide +kernel)
set_option maxRecDepth 20000 in
theorem gX2_putBlock_X2_putDifference : GoodIn wsX2_putBlock (wsV RX2 125 RX2 yX2_putDifference wsX2_putDifference) := goodIn_app (goodIn_of _ (by decide +kernel)) ggX2_putBlock_X2_putDifference
set_option maxRecDepth 20000 in
theorem ggX2_putBlock_X4_beginOf : GoodIn wsX2_putBlock wsX4_beginOf := goodIn_r _ [43, 34, 35, 36, 37, 32, 38, 39, 87, 88, 89, 90] (by decide +kernel) (by decide +kernel)
set_option maxRecDepth 20000 in
theorem gX2_putBlock_X4_beginOf : GoodIn wsX2_putBlock (wsV RX2 128 RX4 yX4_beginOf wsX4_beginOf) := goodIn_app (goodIn_of _ (by decide +kernel)) ggX2_putBlock_X4_beginOf
set_option maxRecDepth 20000 in
theorem ggX2_putBlock_X8_addPart : GoodIn wsX2_putBlock wsX8_addPart := goodIn_r _ [72, 73, 74, 75, 10, 76, 12, 23, 28, 15, 16, 17, 18, 13, 19, 20, 21, 22, 83, 84, 85, 86] (by decide +kernel) (by decide +kernel)
set_option maxRecDepth 20000 in
theorem gX2_putBlock_X8_addPart : GoodIn wsX2_putBlock (wsV RX2 131 RX8 yX8_addPart wsX8_addPart) := goodIn_app (goodIn_of _ (by decide +kernel)) ggX2_putBlock_X8_addPart
theorem dX2_putBlock_0 : decode cX2_putBlock 0 = .ok (.iload_n 2, 1) := by decide +kernel
theorem dX2_putBlock_1 : decode cX2_putBlock 1 = .ok (.iconst 1, 1) := by decide +kernel
theorem dX2_putBlock_2 : decode cX2_putBlock 2 = .ok (.if_icmp .ne 7, 3) := by decide +kernel
theorem dX2_putBlock_5 : decode cX2_putBlock 5 = .ok (.iconst 0, 1) := by decide +kernel
theorem dX2_putBlock_6 : decode cX2_putBlock 6 = .ok (.goto 7, 3) := by decide +kernel
theorem dX2_putBlock_9 : decode cX2_putBlock 9 = .ok (.aload_n 0, 1) := by decide +kernel
theorem dX2_putBlock_10 : decode cX2_putBlock 10 = .ok (.getfield 27, 3) := by decide +kernel
theorem dX2_putBlock_13 : decode cX2_putBlock 13 = .ok (.istore 5, 2) := by decide +kernel
theorem dX2_putBlock_15 : decode cX2_putBlock 15 = .ok (.aload_n 0, 1) := by decide +kernel
theorem dX2_putBlock_16 : decode cX2_putBlock 16 = .ok (.getfield 16, 3) := by decide +kernel
theorem dX2_putBlock_19 : decode cX2_putBlock 19 = .ok (.invokevirtual 119, 3) := by decide +kernel
theorem dX2_putBlock_22 : decode cX2_putBlock 22 = .ok (.aload_n 0, 1) := by decide +kernel
theorem dX2_putBlock_23 : decode cX2_putBlock 23 = .ok (.getfield 16, 3) := by decide +kernel
theorem dX2_putBlock_26 : decode cX2_putBlock 26 = .ok (.sipush 129, 3) := by decide +kernel
theorem dX2_putBlock_29 : decode cX2_putBlock 29 = .ok (.invokevirtual 59, 3) := by decide +kernel
theorem dX2_putBlock_32 : decode cX2_putBlock 32 = .ok (.aload_n 0, 1) := by decide +kernel
theorem dX2_putBlock_33 : decode cX2_putBlock 33 = .ok (.getfield 16, 3) := by decide +kernel
theorem dX2_putBlock_36 : decode cX2_putBlock 36 = .ok (.lload_n 3, 1) := by decide +kernel
theorem dX2_putBlock_37 : decode cX2_putBlock 37 = .ok (.iconst 2, 1) := by decide +kernel
theorem dX2_putBlock_38 : decode cX2_putBlock 38 = .ok (.invokevirtual 100, 3) := by decide +kernel
theorem dX2_putBlock_41 : decode cX2_putBlock 41 = .ok (.aload_n 0, 1) := by decide +kernel
theorem dX2_putBlock_42 : decode cX2_putBlock 42 = .ok (.getfield 16, 3) := by decide +kernel
theorem dX2_putBlock_45 : decode cX2_putBlock 45 = .ok (.sipush 128, 3) := by decide +kernel
theorem dX2_putBlock_48 : decode cX2_putBlock 48 = .ok (.iload 5, 2) := by decide +kernel
theorem dX2_putBlock_50 : decode cX2_putBlock 50 = .ok (.iconst 1, 1) := by decide +kernel
theorem dX2_putBlock_51 : decode cX2_putBlock 51 = .ok (.ishl, 1) := by decide +kernel
theorem dX2_putBlock_52 : decode cX2_putBlock 52 = .ok (.ior, 1) := by decide +kernel
theorem dX2_putBlock_53 : decode cX2_putBlock 53 = .ok (.invokevirtual 59, 3) := by decide +kernel
theorem dX2_putBlock_56 : decode cX2_putBlock 56 = .ok (.iload 5, 2) := by decide +kernel
theorem dX2_putBlock_58 : decode cX2_putBlock 58 = .ok (.ifCond .eq 13, 3) := by decide +kernel
theorem dX2_putBlock_61 : decode cX2_putBlock 61 = .ok (.aload_n 0, 1) := by decide +kernel
theorem dX2_putBlock_62 : decode cX2_putBlock 62 = .ok (.getfield 16, 3) := by decide +kernel
theorem dX2_putBlock_65 : decode cX2_putBlock 65 = .ok (.iload_n 2, 1) := by decide +kernel
theorem dX2_putBlock_66 : decode cX2_putBlock 66 = .ok (.iconst 1, 1) := by decide +kernel
theorem dX2_putBlock_67 : decode cX2_putBlock 67 = .ok (.isub, 1) := by decide +kernel
theorem dX2_putBlock_68 : decode cX2_putBlock 68 = .ok (.invokevirtual 59, 3) := by decide +kernel
theorem dX2_putBlock_71 : decode cX2_putBlock 71 = .ok (.iload_n 1, 1) := by decide +kernel
theorem dX2_putBlock_72 : decode cX2_putBlock 72 = .ok (.istore 6, 2) := by decide +kernel
theorem dX2_putBlock_74 : decode cX2_putBlock 74 = .ok (.iload 6, 2) := by decide +kernel
theorem dX2_putBlock_76 : decode cX2_putBlock 76 = .ok (.iload_n 1, 1) := by decide +kernel
theorem dX2_putBlock_77 : decode cX2_putBlock 77 = .ok (.iload_n 2, 1) := by decide +kernel
theorem dX2_putBlock_78 : decode cX2_putBlock 78 = .ok (.iadd, 1) := by decide +kernel
theorem dX2_putBlock_79 : decode cX2_putBlock 79 = .ok (.iconst 1, 1) := by decide +kernel
theorem dX2_putBlock_80 : decode cX2_putBlock 80 = .ok (.isub, 1) := by decide +kernel
theorem dX2_putBlock_81 : decode cX2_putBlock 81 = .ok (.if_icmp .ge 95, 3) := by decide +kernel
theorem dX2_putBlock_84 : decode cX2_putBlock 84 = .ok (.iload 5, 2) := by decide +kernel
theorem dX2_putBlock_86 : decode cX2_putBlock 86 = .ok (.iconst 1, 1) := by decide +kernel
theorem dX2_putBlock_87 : decode cX2_putBlock 87 = .ok (.if_icmp .ne 19, 3) := by decide +kernel
theorem dX2_putBlock_90 : decode cX2_putBlock 90 = .ok (.aload_n 0, 1) := by decide +kernel
theorem dX2_putBlock_91 : decode cX2_putBlock 91 = .ok (.aload_n 0, 1) := by decide +kernel
theorem dX2_putBlock_92 : decode cX2_putBlock 92 = .ok (.getfield 20, 3) := by decide +kernel
theorem dX2_putBlock_95 : decode cX2_putBlock 95 = .ok (.iload 6, 2) := by decide +kernel
theorem dX2_putBlock_97 : decode cX2_putBlock 97 = .ok (.invokevirtual 116, 3) := by decide +kernel
theorem dX2_putBlock_100 : decode cX2_putBlock 100 = .ok (.invokevirtual 122, 3) := by decide +kernel
theorem dX2_putBlock_103 : decode cX2_putBlock 103 = .ok (.goto 67, 3) := by decide +kernel
theorem dX2_putBlock_106 : decode cX2_putBlock 106 = .ok (.iload 5, 2) := by decide +kernel
theorem dX2_putBlock_108 : decode cX2_putBlock 108 = .ok (.iconst 3, 1) := by decide +kernel
theorem dX2_putBlock_109 : decode cX2_putBlock 109 = .ok (.if_icmp .ne 29, 3) := by decide +kernel
theorem dX2_putBlock_112 : decode cX2_putBlock 112 = .ok (.iload 6, 2) := by decide +kernel
theorem dX2_putBlock_114 : decode cX2_putBlock 114 = .ok (.iload_n 1, 1) := by decide +kernel
theorem dX2_putBlock_115 : decode cX2_putBlock 115 = .ok (.if_icmp .ne 23, 3) := by decide +kernel
theorem dX2_putBlock_118 : decode cX2_putBlock 118 = .ok (.aload_n 0, 1) := by decide +kernel
theorem dX2_putBlock_119 : decode cX2_putBlock 119 = .ok (.getfield 16, 3) := by decide +kernel
theorem dX2_putBlock_122 : decode cX2_putBlock 122 = .ok (.aload_n 0, 1) := by decide +kernel
theorem dX2_putBlock_123 : decode cX2_putBlock 123 = .ok (.getfield 20, 3) := by decide +kernel
theorem dX2_putBlock_126 : decode cX2_putBlock 126 = .ok (.iload 6, 2) := by decide +kernel
theorem dX2_putBlock_128 : decode cX2_putBlock 128 = .ok (.invokevirtual 116, 3) := by decide +kernel
theorem dX2_putBlock_131 : decode cX2_putBlock 131 = .ok (.i2l, 1) := by decide +kernel
theorem dX2_putBlock_132 : decode cX2_putBlock 132 = .ok (.invokestatic 112, 3) := by decide +kernel
theorem dX2_putBlock_135 : decode cX2_putBlock 135 = .ok (.goto 35, 3) := by decide +kernel
theorem dX2_putBlock_138 : decode cX2_putBlock 138 = .ok (.iload 5, 2) := by decide +kernel
theorem dX2_putBlock_140 : decode cX2_putBlock 140 = .ok (.iconst 3, 1) := by decide +kernel
theorem dX2_putBlock_141 : decode cX2_putBlock 141 = .ok (.if_icmp .ne 29, 3) := by decide +kernel
theorem dX2_putBlock_144 : decode cX2_putBlock 144 = .ok (.aload_n 0, 1) := by decide +kernel
theorem dX2_putBlock_145 : decode cX2_putBlock 145 = .ok (.aload_n 0, 1) := by decide +kernel
theorem dX2_putBlock_146 : decode cX2_putBlock 146 = .ok (.getfield 20, 3) := by decide +kernel
theorem dX2_putBlock_149 : decode cX2_putBlock 149 = .ok (.iload 6, 2) := by decide +kernel
theorem dX2_putBlock_151 : decode cX2_putBlock 151 = .ok (.invokevirtual 116, 3) := by decide +kernel
theorem dX2_putBlock_154 : decode cX2_putBlock 154 = .ok (.aload_n 0, 1) := by decide +kernel
theorem dX2_putBlock_155 : decode cX2_putBlock 155 = .ok (.getfield 20, 3) := by decide +kernel
theorem dX2_putBlock_158 : decode cX2_putBlock 158 = .ok (.iload 6, 2) := by decide +kernel
theorem dX2_putBlock_160 : decode cX2_putBlock 160 = .ok (.iconst 1, 1) := by decide +kernel
theorem dX2_putBlock_161 : decode cX2_putBlock 161 = .ok (.isub, 1) := by decide +kernel
theorem dX2_putBlock_162 : decode cX2_putBlock 162 = .ok (.invokevirtual 116, 3) := by decide +kernel
theorem dX2_putBlock_165 : decode cX2_putBlock 165 = .ok (.isub, 1) := by decide +kernel
theorem dX2_putBlock_166 : decode cX2_putBlock 166 = .ok (.i2l, 1) := by decide +kernel
theorem dX2_putBlock_167 : decode cX2_putBlock 167 = .ok (.invokevirtual 125, 3) := by decide +kernel
theorem dX2_putBlock_170 : decode cX2_putBlock 170 = .ok (.iinc 6 1, 3) := by decide +kernel
theorem dX2_putBlock_173 : decode cX2_putBlock 173 = .ok (.goto (-99), 3) := by decide +kernel
theorem dX2_putBlock_176 : decode cX2_putBlock 176 = .ok (.aload_n 0, 1) := by decide +kernel
theorem dX2_putBlock_177 : decode cX2_putBlock 177 = .ok (.getfield 20, 3) := by decide +kernel
theorem dX2_putBlock_180 : decode cX2_putBlock 180 = .ok (.iload_n 1, 1) := by decide +kernel
theorem dX2_putBlock_181 : decode cX2_putBlock 181 = .ok (.invokevirtual 128, 3) := by decide +kernel
theorem dX2_putBlock_184 : decode cX2_putBlock 184 = .ok (.istore 6, 2) := by decide +kernel
theorem dX2_putBlock_186 : decode cX2_putBlock 186 = .ok (.aload_n 0, 1) := by decide +kernel
theorem dX2_putBlock_187 : decode cX2_putBlock 187 = .ok (.getfield 20, 3) := by decide +kernel
theorem dX2_putBlock_190 : decode cX2_putBlock 190 = .ok (.iload_n 1, 1) := by decide +kernel
theorem dX2_putBlock_191 : decode cX2_putBlock 191 = .ok (.iload_n 2, 1) := by decide +kernel
theorem dX2_putBlock_192 : decode cX2_putBlock 192 = .ok (.iadd, 1) := by decide +kernel
theorem dX2_putBlock_193 : decode cX2_putBlock 193 = .ok (.invokevirtual 128, 3) := by decide +kernel
theorem dX2_putBlock_196 : decode cX2_putBlock 196 = .ok (.iload 6, 2) := by decide +kernel
theorem dX2_putBlock_198 : decode cX2_putBlock 198 = .ok (.isub, 1) := by decide +kernel
theorem dX2_putBlock_199 : decode cX2_putBlock 199 = .ok (.istore 7, 2) := by decide +kernel
theorem dX2_putBlock_201 : decode cX2_putBlock 201 = .ok (.aload_n 0, 1) := by decide +kernel
theorem dX2_putBlock_202 : decode cX2_putBlock 202 = .ok (.getfield 24, 3) := by decide +kernel
theorem dX2_putBlock_205 : decode cX2_putBlock 205 = .ok (.sipush 163, 3) := by decide +kernel
theorem dX2_putBlock_208 : decode cX2_putBlock 208 = .ok (.invokevirtual 59, 3) := by decide +kernel
theorem dX2_putBlock_211 : decode cX2_putBlock 211 = .ok (.aload_n 0, 1) := by decide +kernel
theorem dX2_putBlock_212 : decode cX2_putBlock 212 = .ok (.getfield 24, 3) := by decide +kernel
theorem dX2_putBlock_215 : decode cX2_putBlock 215 = .ok (.aload_n 0, 1) := by decide +kernel
theorem dX2_putBlock_216 : decode cX2_putBlock 216 = .ok (.getfield 16, 3) := by decide +kernel
theorem dX2_putBlock_219 : decode cX2_putBlock 219 = .ok (.getfield 104, 3) := by decide +kernel
theorem dX2_putBlock_222 : decode cX2_putBlock 222 = .ok (.iload 7, 2) := by decide +kernel
theorem dX2_putBlock_224 : decode cX2_putBlock 224 = .ok (.iadd, 1) := by decide +kernel
theorem dX2_putBlock_225 : decode cX2_putBlock 225 = .ok (.i2l, 1) := by decide +kernel
theorem dX2_putBlock_226 : decode cX2_putBlock 226 = .ok (.invokestatic 112, 3) := by decide +kernel
theorem dX2_putBlock_229 : decode cX2_putBlock 229 = .ok (.aload_n 0, 1) := by decide +kernel
theorem dX2_putBlock_230 : decode cX2_putBlock 230 = .ok (.getfield 24, 3) := by decide +kernel
theorem dX2_putBlock_233 : decode cX2_putBlock 233 = .ok (.aload_n 0, 1) := by decide +kernel
theorem dX2_putBlock_234 : decode cX2_putBlock 234 = .ok (.getfield 16, 3) := by decide +kernel
theorem dX2_putBlock_237 : decode cX2_putBlock 237 = .ok (.iconst 0, 1) := by decide +kernel
theorem dX2_putBlock_238 : decode cX2_putBlock 238 = .ok (.aload_n 0, 1) := by decide +kernel
theorem dX2_putBlock_239 : decode cX2_putBlock 239 = .ok (.getfield 16, 3) := by decide +kernel
theorem dX2_putBlock_242 : decode cX2_putBlock 242 = .ok (.getfield 104, 3) := by decide +kernel
theorem dX2_putBlock_245 : decode cX2_putBlock 245 = .ok (.invokevirtual 131, 3) := by decide +kernel
theorem dX2_putBlock_248 : decode cX2_putBlock 248 = .ok (.aload_n 0, 1) := by decide +kernel
theorem dX2_putBlock_249 : decode cX2_putBlock 249 = .ok (.getfield 24, 3) := by decide +kernel
theorem dX2_putBlock_252 : decode cX2_putBlock 252 = .ok (.aload_n 0, 1) := by decide +kernel
theorem dX2_putBlock_253 : decode cX2_putBlock 253 = .ok (.getfield 20, 3) := by decide +kernel
theorem dX2_putBlock_256 : decode cX2_putBlock 256 = .ok (.getfield 135, 3) := by decide +kernel
theorem dX2_putBlock_259 : decode cX2_putBlock 259 = .ok (.iload 6, 2) := by decide +kernel
theorem dX2_putBlock_261 : decode cX2_putBlock 261 = .ok (.iload 7, 2) := by decide +kernel
theorem dX2_putBlock_263 : decode cX2_putBlock 263 = .ok (.invokevirtual 131, 3) := by decide +kernel
theorem dX2_putBlock_266 : decode cX2_putBlock 266 = .ok (.return_, 1) := by decide +kernel
set_option maxRecDepth 20000 in
theorem ggX2_putSummedSize_X8_add : GoodIn wsX2_putSummedSize wsX8_add := goodIn_r _ [6, 7, 8, 9, 10, 11, 12, 5, 13, 14, 21, 22, 23, 24] (by decide +kernel) (by decide +kernel)
set_option maxRecDepth 20000 in
theorem gX2_putSummedSize_X8_add : GoodIn wsX2_putSummedSize (wsV RX2 59 RX8 yX8_add wsX8_add) := goodIn_app (goodIn_of _ (by decide +kernel)) ggX2_putSummedSize_X8_add
theorem dX2_putSummedSize_0 : decode cX2_putSummedSize 0 = .ok (.iload_n 1, 1) := by decide +kernel
theorem dX2_putSummedSize_1 : decode cX2_putSummedSize 1 = .ok (.sipush 255, 3) := by decide +kernel
theorem dX2_putSummedSize_4 : decode cX2_putSummedSize 4 = .ok (.idiv, 1) := by decide +kernel
theorem dX2_putSummedSize_5 : decode cX2_putSummedSize 5 = .ok (.istore_n 2, 1) := by decide +kernel
theorem dX2_putSummedSize_6 : decode cX2_putSummedSize 6 = .ok (.iconst 0, 1) := by decide +kernel
theorem dX2_putSummedSize_7 : decode cX2_putSummedSize 7 = .ok (.istore_n 3, 1) := by decide +kernel
theorem dX2_putSummedSize_8 : decode cX2_putSummedSize 8 = .ok (.iload_n 3, 1) := by decide +kernel
theorem dX2_putSummedSize_9 : decode cX2_putSummedSize 9 = .ok (.iload_n 2, 1) := by decide +kernel
theorem dX2_putSummedSize_10 : decode cX2_putSummedSize 10 = .ok (.if_icmp .ge 19, 3) := by decide +kernel
theorem dX2_putSummedSize_13 : decode cX2_putSummedSize 13 = .ok (.aload_n 0, 1) := by decide +kernel
theorem dX2_putSummedSize_14 : decode cX2_putSummedSize 14 = .ok (.getfield 16, 3) := by decide +kernel
theorem dX2_putSummedSize_17 : decode cX2_putSummedSize 17 = .ok (.sipush 255, 3) := by decide +kernel
theorem dX2_putSummedSize_20 : decode cX2_putSummedSize 20 = .ok (.invokevirtual 59, 3) := by decide +kernel
theorem dX2_putSummedSize_23 : decode cX2_putSummedSize 23 = .ok (.iinc 3 1, 3) := by decide +kernel
theorem dX2_putSummedSize_26 : decode cX2_putSummedSize 26 = .ok (.goto (-18), 3) := by decide +kernel
theorem dX2_putSummedSize_29 : decode cX2_putSummedSize 29 = .ok (.aload_n 0, 1) := by decide +kernel
theorem dX2_putSummedSize_30 : decode cX2_putSummedSize 30 = .ok (.getfield 16, 3) := by decide +kernel
theorem dX2_putSummedSize_33 : decode cX2_putSummedSize 33 = .ok (.iload_n 1, 1) := by decide +kernel
theorem dX2_putSummedSize_34 : decode cX2_putSummedSize 34 = .ok (.sipush 255, 3) := by decide +kernel
theorem dX2_putSummedSize_37 : decode cX2_putSummedSize 37 = .ok (.iload_n 2, 1) := by decide +kernel
theorem dX2_putSummedSize_38 : decode cX2_putSummedSize 38 = .ok (.imul, 1) := by decide +kernel
theorem dX2_putSummedSize_39 : decode cX2_putSummedSize 39 = .ok (.isub, 1) := by decide +kernel
theorem dX2_putSummedSize_40 : decode cX2_putSummedSize 40 = .ok (.invokevirtual 59, 3) := by decide +kernel
theorem dX2_putSummedSize_43 : decode cX2_putSummedSize 43 = .ok (.return_, 1) := by decide +kernel
set_option maxRecDepth 20000 in
theorem ggX2_putDifference_X0_differenceShift : GoodIn wsX2_putDifference wsX0_differenceShift := goodIn_r _ [9] (by decide +kernel) (by decide +kernel)
set_option maxRecDepth 20000 in
theorem gX2_putDifference_X0_differenceShift : GoodIn wsX2_putDifference (va_wsS RX2 144 yX0_differenceShift wsX0_differenceShift) := goodIn_app (goodIn_of _ (by decide +kernel)) ggX2_putDifference_X0_differenceShift
set_option maxRecDepth 20000 in
theorem ggX2_putDifference_X8_addHighFirst : GoodIn wsX2_putDifference wsX8_addHighFirst := goodIn_r _ [14, 15, 16, 17, 13, 18, 19, 20, 21, 22, 23, 24, 25, 26, 33, 34, 35, 36] (by decide +kernel) (by decide +kernel)
set_option maxRecDepth 20000 in
theorem gX2_putDifference_X8_addHighFirst : GoodIn wsX2_putDifference (wsV RX2 100 RX8 yX8_addHighFirst wsX8_addHighFirst) := goodIn_app (goodIn_of _ (by decide +kernel)) ggX2_putDifference_X8_addHighFirst
theorem dX2_putDifference_0 : decode cX2_putDifference 0 = .ok (.iconst 1, 1) := by decide +kernel
theorem dX2_putDifference_1 : decode cX2_putDifference 1 = .ok (.istore_n 3, 1) := by decide +kernel
theorem dX2_putDifference_2 : decode cX2_putDifference 2 = .ok (.iload_n 3, 1) := by decide +kernel
theorem dX2_putDifference_3 : decode cX2_putDifference 3 = .ok (.bipush 8, 2) := by decide +kernel
theorem dX2_putDifference_5 : decode cX2_putDifference 5 = .ok (.if_icmp .ge 21, 3) := by decide +kernel
theorem dX2_putDifference_8 : decode cX2_putDifference 8 = .ok (.lload_n 1, 1) := by decide +kernel
theorem dX2_putDifference_9 : decode cX2_putDifference 9 = .ok (.invokestatic 138, 3) := by decide +kernel
theorem dX2_putDifference_12 : decode cX2_putDifference 12 = .ok (.iload_n 3, 1) := by decide +kernel
theorem dX2_putDifference_13 : decode cX2_putDifference 13 = .ok (.invokestatic 144, 3) := by decide +kernel
theorem dX2_putDifference_16 : decode cX2_putDifference 16 = .ok (.lcmp, 1) := by decide +kernel
theorem dX2_putDifference_17 : decode cX2_putDifference 17 = .ok (.ifCond .le 9, 3) := by decide +kernel
theorem dX2_putDifference_20 : decode cX2_putDifference 20 = .ok (.iinc 3 1, 3) := by decide +kernel
theorem dX2_putDifference_23 : decode cX2_putDifference 23 = .ok (.goto (-21), 3) := by decide +kernel
theorem dX2_putDifference_26 : decode cX2_putDifference 26 = .ok (.lload_n 1, 1) := by decide +kernel
theorem dX2_putDifference_27 : decode cX2_putDifference 27 = .ok (.iload_n 3, 1) := by decide +kernel
theorem dX2_putDifference_28 : decode cX2_putDifference 28 = .ok (.invokestatic 144, 3) := by decide +kernel
theorem dX2_putDifference_31 : decode cX2_putDifference 31 = .ok (.ladd, 1) := by decide +kernel
theorem dX2_putDifference_32 : decode cX2_putDifference 32 = .ok (.lstore 4, 2) := by decide +kernel
theorem dX2_putDifference_34 : decode cX2_putDifference 34 = .ok (.aload_n 0, 1) := by decide +kernel
theorem dX2_putDifference_35 : decode cX2_putDifference 35 = .ok (.getfield 16, 3) := by decide +kernel
theorem dX2_putDifference_38 : decode cX2_putDifference 38 = .ok (.lconst 1, 1) := by decide +kernel
theorem dX2_putDifference_39 : decode cX2_putDifference 39 = .ok (.bipush 7, 2) := by decide +kernel
theorem dX2_putDifference_41 : decode cX2_putDifference 41 = .ok (.iload_n 3, 1) := by decide +kernel
theorem dX2_putDifference_42 : decode cX2_putDifference 42 = .ok (.imul, 1) := by decide +kernel
theorem dX2_putDifference_43 : decode cX2_putDifference 43 = .ok (.lshl, 1) := by decide +kernel
theorem dX2_putDifference_44 : decode cX2_putDifference 44 = .ok (.lload 4, 2) := by decide +kernel
theorem dX2_putDifference_46 : decode cX2_putDifference 46 = .ok (.lor, 1) := by decide +kernel
theorem dX2_putDifference_47 : decode cX2_putDifference 47 = .ok (.iload_n 3, 1) := by decide +kernel
theorem dX2_putDifference_48 : decode cX2_putDifference 48 = .ok (.invokevirtual 100, 3) := by decide +kernel
theorem dX2_putDifference_51 : decode cX2_putDifference 51 = .ok (.return_, 1) := by decide +kernel
set_option maxRecDepth 20000 in
theorem ggX2_putSize_X0_highestSize : GoodIn wsX2_putSize wsX0_highestSize := goodIn_r _ [4, 5] (by decide +kernel) (by decide +kernel)
set_option maxRecDepth 20000 in
theorem gX2_putSize_X0_highestSize : GoodIn wsX2_putSize (va_wsS RX2 147 yX0_highestSize wsX0_highestSize) := goodIn_app (goodIn_of _ (by decide +kernel)) ggX2_putSize_X0_highestSize
set_option maxRecDepth 20000 in
theorem ggX2_putSize_X8_addHighFirst : GoodIn wsX2_putSize wsX8_addHighFirst := goodIn_r _ [10, 11, 12, 13, 9, 14, 15, 16, 17, 18, 19, 20, 21, 22, 23, 24, 25, 26] (by decide +kernel) (by decide +kernel)
set_option maxRecDepth 20000 in
theorem gX2_putSize_X8_addHighFirst : GoodIn wsX2_putSize (wsV RX2 100 RX8 yX8_addHighFirst wsX8_addHighFirst) := goodIn_app (goodIn_of _ (by decide +kernel)) ggX2_putSize_X8_addHighFirst
theorem dX2_putSize_0 : decode cX2_putSize 0 = .ok (.iconst 1, 1) := by decide +kernel
theorem dX2_putSize_1 : decode cX2_putSize 1 = .ok (.istore_n 3, 1) := by decide +kernel
theorem dX2_putSize_2 : decode cX2_putSize 2 = .ok (.iload_n 3, 1) := by decide +kernel
theorem dX2_putSize_3 : decode cX2_putSize 3 = .ok (.bipush 8, 2) := by decide +kernel
theorem dX2_putSize_5 : decode cX2_putSize 5 = .ok (.if_icmp .ge 18, 3) := by decide +kernel
theorem dX2_putSize_8 : decode cX2_putSize 8 = .ok (.lload_n 1, 1) := by decide +kernel
theorem dX2_putSize_9 : decode cX2_putSize 9 = .ok (.iload_n 3, 1) := by decide +kernel
theorem dX2_putSize_10 : decode cX2_putSize 10 = .ok (.invokestatic 147, 3) := by decide +kernel
theorem dX2_putSize_13 : decode cX2_putSize 13 = .ok (.lcmp, 1) := by decide +kernel
theorem dX2_putSize_14 : decode cX2_putSize 14 = .ok (.ifCond .le 9, 3) := by decide +kernel
theorem dX2_putSize_17 : decode cX2_putSize 17 = .ok (.iinc 3 1, 3) := by decide +kernel
theorem dX2_putSize_20 : decode cX2_putSize 20 = .ok (.goto (-18), 3) := by decide +kernel
theorem dX2_putSize_23 : decode cX2_putSize 23 = .ok (.aload_n 0, 1) := by decide +kernel
theorem dX2_putSize_24 : decode cX2_putSize 24 = .ok (.lconst 1, 1) := by decide +kernel
theorem dX2_putSize_25 : decode cX2_putSize 25 = .ok (.bipush 7, 2) := by decide +kernel
theorem dX2_putSize_27 : decode cX2_putSize 27 = .ok (.iload_n 3, 1) := by decide +kernel
theorem dX2_putSize_28 : decode cX2_putSize 28 = .ok (.imul, 1) := by decide +kernel
theorem dX2_putSize_29 : decode cX2_putSize 29 = .ok (.lshl, 1) := by decide +kernel
theorem dX2_putSize_30 : decode cX2_putSize 30 = .ok (.lload_n 1, 1) := by decide +kernel
theorem dX2_putSize_31 : decode cX2_putSize 31 = .ok (.lor, 1) := by decide +kernel
theorem dX2_putSize_32 : decode cX2_putSize 32 = .ok (.iload_n 3, 1) := by decide +kernel
theorem dX2_putSize_33 : decode cX2_putSize 33 = .ok (.invokevirtual 100, 3) := by decide +kernel
theorem dX2_putSize_36 : decode cX2_putSize 36 = .ok (.return_, 1) := by decide +kernel
theorem dX3_init_0 : decode cX3_init 0 = .ok (.aload_n 0, 1) := by decide +kernel
theorem dX3_init_1 : decode cX3_init 1 = .ok (.invokespecial 1, 3) := by decide +kernel
theorem dX3_init_4 : decode cX3_init 4 = .ok (.return_, 1) := by decide +kernel
set_option maxRecDepth 20000 in
theorem ggX4_init_X8_init : GoodIn wsX4_init wsX8_init := goodIn_r _ [14, 15, 2, 3, 16, 17, 18, 19, 20, 8, 21, 22, 23, 24, 25] (by decide +kernel) (by decide +kernel)
set_option maxRecDepth 20000 in
theorem gX4_init_X8_init : GoodIn wsX4_init (wsX8_init) := ggX4_init_X8_init
theorem dX4_init_0 : decode cX4_init 0 = .ok (.aload_n 0, 1) := by decide +kernel
theorem dX4_init_1 : decode cX4_init 1 = .ok (.invokespecial 3, 3) := by decide +kernel
theorem dX4_init_4 : decode cX4_init 4 = .ok (.aload_n 0, 1) := by decide +kernel
theorem dX4_init_5 : decode cX4_init 5 = .ok (.new 9, 3) := by decide +kernel
theorem dX4_init_8 : decode cX4_init 8 = .ok (.dup, 1) := by decide +kernel
theorem dX4_init_9 : decode cX4_init 9 = .ok (.sipush 2400, 3) := by decide +kernel
theorem dX4_init_12 : decode cX4_init 12 = .ok (.invokespecial 11, 3) := by decide +kernel
theorem dX4_init_15 : decode cX4_init 15 = .ok (.putfield 14, 3) := by decide +kernel
theorem dX4_init_18 : decode cX4_init 18 = .ok (.aload_n 0, 1) := by decide +kernel
theorem dX4_init_19 : decode cX4_init 19 = .ok (.bipush 64, 2) := by decide +kernel
theorem dX4_init_21 : decode cX4_init 21 = .ok (.newarray .int, 2) := by decide +kernel
theorem dX4_init_23 : decode cX4_init 23 = .ok (.putfield 20, 3) := by decide +kernel
theorem dX4_init_26 : decode cX4_init 26 = .ok (.aload_n 0, 1) := by decide +kernel
theorem dX4_init_27 : decode cX4_init 27 = .ok (.bipush 64, 2) := by decide +kernel
theorem dX4_init_29 : decode cX4_init 29 = .ok (.newarray .long, 2) := by decide +kernel
theorem dX4_init_31 : decode cX4_init 31 = .ok (.putfield 24, 3) := by decide +kernel
theorem dX4_init_34 : decode cX4_init 34 = .ok (.return_, 1) := by decide +kernel
set_option maxRecDepth 20000 in
theorem ggX4_empty_X8_empty : GoodIn wsX4_empty wsX8_empty := goodIn_r _ [7, 8, 9, 14, 15, 16, 17] (by decide +kernel) (by decide +kernel)
set_option maxRecDepth 20000 in
theorem gX4_empty_X8_empty : GoodIn wsX4_empty (wsV RX4 32 RX8 yX8_empty wsX8_empty) := goodIn_app (goodIn_of _ (by decide +kernel)) ggX4_empty_X8_empty
theorem dX4_empty_0 : decode cX4_empty 0 = .ok (.aload_n 0, 1) := by decide +kernel
theorem dX4_empty_1 : decode cX4_empty 1 = .ok (.iconst 0, 1) := by decide +kernel
theorem dX4_empty_2 : decode cX4_empty 2 = .ok (.putfield 28, 3) := by decide +kernel
theorem dX4_empty_5 : decode cX4_empty 5 = .ok (.aload_n 0, 1) := by decide +kernel
theorem dX4_empty_6 : decode cX4_empty 6 = .ok (.getfield 14, 3) := by decide +kernel
theorem dX4_empty_9 : decode cX4_empty 9 = .ok (.invokevirtual 32, 3) := by decide +kernel
theorem dX4_empty_12 : decode cX4_empty 12 = .ok (.return_, 1) := by decide +kernel
theorem dX4_holds_0 : decode cX4_holds 0 = .ok (.iload_n 1, 1) := by decide +kernel
theorem dX4_holds_1 : decode cX4_holds 1 = .ok (.ifCond .lt 15, 3) := by decide +kernel
theorem dX4_holds_4 : decode cX4_holds 4 = .ok (.iload_n 1, 1) := by decide +kernel
theorem dX4_holds_5 : decode cX4_holds 5 = .ok (.aload_n 0, 1) := by decide +kernel
theorem dX4_holds_6 : decode cX4_holds 6 = .ok (.getfield 28, 3) := by decide +kernel
theorem dX4_holds_9 : decode cX4_holds 9 = .ok (.if_icmp .ge 7, 3) := by decide +kernel
theorem dX4_holds_12 : decode cX4_holds 12 = .ok (.iconst 1, 1) := by decide +kernel
theorem dX4_holds_13 : decode cX4_holds 13 = .ok (.goto 4, 3) := by decide +kernel
theorem dX4_holds_16 : decode cX4_holds 16 = .ok (.iconst 0, 1) := by decide +kernel
theorem dX4_holds_17 : decode cX4_holds 17 = .ok (.ireturn, 1) := by decide +kernel
set_option maxRecDepth 20000 in
theorem ggX4_beginOf_X4_holds : GoodIn wsX4_beginOf wsX4_holds := goodIn_r _ [6, 7, 8, 9, 10, 11] (by decide +kernel) (by decide +kernel)
set_option maxRecDepth 20000 in
theorem gX4_beginOf_X4_holds : GoodIn wsX4_beginOf (wsV RX4 35 RX4 yX4_holds wsX4_holds) := goodIn_app (goodIn_of _ (by decide +kernel)) ggX4_beginOf_X4_holds
theorem dX4_beginOf_0 : decode cX4_beginOf 0 = .ok (.aload_n 0, 1) := by decide +kernel
theorem dX4_beginOf_1 : decode cX4_beginOf 1 = .ok (.iload_n 1, 1) := by decide +kernel
theorem dX4_beginOf_2 : decode cX4_beginOf 2 = .ok (.iconst 1, 1) := by decide +kernel
theorem dX4_beginOf_3 : decode cX4_beginOf 3 = .ok (.isub, 1) := by decide +kernel
theorem dX4_beginOf_4 : decode cX4_beginOf 4 = .ok (.invokevirtual 35, 3) := by decide +kernel
theorem dX4_beginOf_7 : decode cX4_beginOf 7 = .ok (.ifCond .eq 14, 3) := by decide +kernel
theorem dX4_beginOf_10 : decode cX4_beginOf 10 = .ok (.aload_n 0, 1) := by decide +kernel
theorem dX4_beginOf_11 : decode cX4_beginOf 11 = .ok (.getfield 20, 3) := by decide +kernel
theorem dX4_beginOf_14 : decode cX4_beginOf 14 = .ok (.iload_n 1, 1) := by decide +kernel
theorem dX4_beginOf_15 : decode cX4_beginOf 15 = .ok (.iconst 1, 1) := by decide +kernel
theorem dX4_beginOf_16 : decode cX4_beginOf 16 = .ok (.isub, 1) := by decide +kernel
theorem dX4_beginOf_17 : decode cX4_beginOf 17 = .ok (.iaload, 1) := by decide +kernel
theorem dX4_beginOf_18 : decode cX4_beginOf 18 = .ok (.goto 4, 3) := by decide +kernel
theorem dX4_beginOf_21 : decode cX4_beginOf 21 = .ok (.iconst 0, 1) := by decide +kernel
theorem dX4_beginOf_22 : decode cX4_beginOf 22 = .ok (.ireturn, 1) := by decide +kernel
set_option maxRecDepth 20000 in
theorem ggX4_bytesOf_X4_holds : GoodIn wsX4_bytesOf wsX4_holds := goodIn_r _ [6, 7, 12, 13, 14, 15] (by decide +kernel) (by decide +kernel)
set_option maxRecDepth 20000 in
theorem gX4_bytesOf_X4_holds : GoodIn wsX4_bytesOf (wsV RX4 35 RX4 yX4_holds wsX4_holds) := goodIn_app (goodIn_of _ (by decide +kernel)) ggX4_bytesOf_X4_holds
set_option maxRecDepth 20000 in
theorem ggX4_bytesOf_X4_beginOf : GoodIn wsX4_bytesOf wsX4_beginOf := goodIn_r _ [11, 1, 2, 3, 4, 5, 6, 7, 12, 13, 14, 15] (by decide +kernel) (by decide +kernel)
set_option maxRecDepth 20000 in
theorem gX4_bytesOf_X4_beginOf : GoodIn wsX4_bytesOf (wsV RX4 39 RX4 yX4_beginOf wsX4_beginOf) := goodIn_app (goodIn_of _ (by decide +kernel)) ggX4_bytesOf_X4_beginOf
theorem dX4_bytesOf_0 : decode cX4_bytesOf 0 = .ok (.aload_n 0, 1) := by decide +kernel
theorem dX4_bytesOf_1 : decode cX4_bytesOf 1 = .ok (.iload_n 1, 1) := by decide +kernel
theorem dX4_bytesOf_2 : decode cX4_bytesOf 2 = .ok (.invokevirtual 35, 3) := by decide +kernel
theorem dX4_bytesOf_5 : decode cX4_bytesOf 5 = .ok (.ifCond .eq 18, 3) := by decide +kernel
theorem dX4_bytesOf_8 : decode cX4_bytesOf 8 = .ok (.aload_n 0, 1) := by decide +kernel
theorem dX4_bytesOf_9 : decode cX4_bytesOf 9 = .ok (.getfield 20, 3) := by decide +kernel
theorem dX4_bytesOf_12 : decode cX4_bytesOf 12 = .ok (.iload_n 1, 1) := by decide +kernel
theorem dX4_bytesOf_13 : decode cX4_bytesOf 13 = .ok (.iaload, 1) := by decide +kernel
theorem dX4_bytesOf_14 : decode cX4_bytesOf 14 = .ok (.aload_n 0, 1) := by decide +kernel
theorem dX4_bytesOf_15 : decode cX4_bytesOf 15 = .ok (.iload_n 1, 1) := by decide +kernel
theorem dX4_bytesOf_16 : decode cX4_bytesOf 16 = .ok (.invokevirtual 39, 3) := by decide +kernel
theorem dX4_bytesOf_19 : decode cX4_bytesOf 19 = .ok (.isub, 1) := by decide +kernel
theorem dX4_bytesOf_20 : decode cX4_bytesOf 20 = .ok (.goto 4, 3) := by decide +kernel
theorem dX4_bytesOf_23 : decode cX4_bytesOf 23 = .ok (.iconst (-1), 1) := by decide +kernel
theorem dX4_bytesOf_24 : decode cX4_bytesOf 24 = .ok (.ireturn, 1) := by decide +kernel
set_option maxRecDepth 20000 in
theorem ggX4_byteOf_X4_bytesOf : GoodIn wsX4_byteOf wsX4_bytesOf := goodIn_r _ [6, 7, 8, 9, 10, 5, 11, 12, 13, 14, 15, 16, 24, 25, 26, 27] (by decide +kernel) (by decide +kernel)
set_option maxRecDepth 20000 in
theorem gX4_byteOf_X4_bytesOf : GoodIn wsX4_byteOf (wsV RX4 43 RX4 yX4_bytesOf wsX4_bytesOf) := goodIn_app (goodIn_of _ (by decide +kernel)) ggX4_byteOf_X4_bytesOf
set_option maxRecDepth 20000 in
theorem ggX4_byteOf_X4_beginOf : GoodIn wsX4_byteOf wsX4_beginOf := goodIn_r _ [16, 7, 8, 9, 10, 5, 11, 12, 24, 25, 26, 27] (by decide +kernel) (by decide +kernel)
set_option maxRecDepth 20000 in
theorem gX4_byteOf_X4_beginOf : GoodIn wsX4_byteOf (wsV RX4 39 RX4 yX4_beginOf wsX4_beginOf) := goodIn_app (goodIn_of _ (by decide +kernel)) ggX4_byteOf_X4_beginOf
set_option maxRecDepth 20000 in
theorem ggX4_byteOf_X8_at : GoodIn wsX4_byteOf wsX8_at := goodIn_r _ [21, 22, 23, 28, 29, 30, 31] (by decide +kernel) (by decide +kernel)
set_option maxRecDepth 20000 in
theorem gX4_byteOf_X8_at : GoodIn wsX4_byteOf (wsV RX4 46 RX8 yX8_at wsX8_at) := goodIn_app (goodIn_of _ (by decide +kernel)) ggX4_byteOf_X8_at
theorem dX4_byteOf_0 : decode cX4_byteOf 0 = .ok (.iload_n 2, 1) := by decide +kernel
theorem dX4_byteOf_1 : decode cX4_byteOf 1 = .ok (.ifCond .lt 12, 3) := by decide +kernel
theorem dX4_byteOf_4 : decode cX4_byteOf 4 = .ok (.iload_n 2, 1) := by decide +kernel
theorem dX4_byteOf_5 : decode cX4_byteOf 5 = .ok (.aload_n 0, 1) := by decide +kernel
theorem dX4_byteOf_6 : decode cX4_byteOf 6 = .ok (.iload_n 1, 1) := by decide +kernel
theorem dX4_byteOf_7 : decode cX4_byteOf 7 = .ok (.invokevirtual 43, 3) := by decide +kernel
theorem dX4_byteOf_10 : decode cX4_byteOf 10 = .ok (.if_icmp .lt 5, 3) := by decide +kernel
theorem dX4_byteOf_13 : decode cX4_byteOf 13 = .ok (.iconst (-1), 1) := by decide +kernel
theorem dX4_byteOf_14 : decode cX4_byteOf 14 = .ok (.ireturn, 1) := by decide +kernel
theorem dX4_byteOf_15 : decode cX4_byteOf 15 = .ok (.aload_n 0, 1) := by decide +kernel
theorem dX4_byteOf_16 : decode cX4_byteOf 16 = .ok (.getfield 14, 3) := by decide +kernel
theorem dX4_byteOf_19 : decode cX4_byteOf 19 = .ok (.aload_n 0, 1) := by decide +kernel
theorem dX4_byteOf_20 : decode cX4_byteOf 20 = .ok (.iload_n 1, 1) := by decide +kernel
theorem dX4_byteOf_21 : decode cX4_byteOf 21 = .ok (.invokevirtual 39, 3) := by decide +kernel
theorem dX4_byteOf_24 : decode cX4_byteOf 24 = .ok (.iload_n 2, 1) := by decide +kernel
theorem dX4_byteOf_25 : decode cX4_byteOf 25 = .ok (.iadd, 1) := by decide +kernel
theorem dX4_byteOf_26 : decode cX4_byteOf 26 = .ok (.invokevirtual 46, 3) := by decide +kernel
theorem dX4_byteOf_29 : decode cX4_byteOf 29 = .ok (.ireturn, 1) := by decide +kernel
set_option maxRecDepth 20000 in
theorem ggX4_timeOf_X4_holds : GoodIn wsX4_timeOf wsX4_holds := goodIn_r _ [7, 8, 9, 10, 11, 12] (by decide +kernel) (by decide +kernel)
set_option maxRecDepth 20000 in
theorem gX4_timeOf_X4_holds : GoodIn wsX4_timeOf (wsV RX4 35 RX4 yX4_holds wsX4_holds) := goodIn_app (goodIn_of _ (by decide +kernel)) ggX4_timeOf_X4_holds
theorem dX4_timeOf_0 : decode cX4_timeOf 0 = .ok (.aload_n 0, 1) := by decide +kernel
theorem dX4_timeOf_1 : decode cX4_timeOf 1 = .ok (.iload_n 1, 1) := by decide +kernel
theorem dX4_timeOf_2 : decode cX4_timeOf 2 = .ok (.invokevirtual 35, 3) := by decide +kernel
theorem dX4_timeOf_5 : decode cX4_timeOf 5 = .ok (.ifCond .eq 12, 3) := by decide +kernel
theorem dX4_timeOf_8 : decode cX4_timeOf 8 = .ok (.aload_n 0, 1) := by decide +kernel
theorem dX4_timeOf_9 : decode cX4_timeOf 9 = .ok (.getfield 24, 3) := by decide +kernel
theorem dX4_timeOf_12 : decode cX4_timeOf 12 = .ok (.iload_n 1, 1) := by decide +kernel
theorem dX4_timeOf_13 : decode cX4_timeOf 13 = .ok (.laload, 1) := by decide +kernel
theorem dX4_timeOf_14 : decode cX4_timeOf 14 = .ok (.goto 6, 3) := by decide +kernel
theorem dX4_timeOf_17 : decode cX4_timeOf 17 = .ok (.ldc2_w 49, 3) := by decide +kernel
theorem dX4_timeOf_20 : decode cX4_timeOf 20 = .ok (.lreturn, 1) := by decide +kernel
set_option maxRecDepth 20000 in
theorem ggX4_timeToWrite_X4_timeOf : GoodIn wsX4_timeToWrite wsX4_timeOf := goodIn_r _ [6, 7, 1, 8, 9, 10, 5, 11, 12, 13, 14, 15, 16] (by decide +kernel) (by decide +kernel)
set_option maxRecDepth 20000 in
theorem gX4_timeToWrite_X4_timeOf : GoodIn wsX4_timeToWrite (wsV RX4 51 RX4 yX4_timeOf wsX4_timeOf) := goodIn_app (goodIn_of _ (by decide +kernel)) ggX4_timeToWrite_X4_timeOf
theorem dX4_timeToWrite_0 : decode cX4_timeToWrite 0 = .ok (.iload_n 1, 1) := by decide +kernel
theorem dX4_timeToWrite_1 : decode cX4_timeToWrite 1 = .ok (.istore_n 2, 1) := by decide +kernel
theorem dX4_timeToWrite_2 : decode cX4_timeToWrite 2 = .ok (.iload_n 2, 1) := by decide +kernel
theorem dX4_timeToWrite_3 : decode cX4_timeToWrite 3 = .ok (.ifCond .lt 27, 3) := by decide +kernel
theorem dX4_timeToWrite_6 : decode cX4_timeToWrite 6 = .ok (.aload_n 0, 1) := by decide +kernel
theorem dX4_timeToWrite_7 : decode cX4_timeToWrite 7 = .ok (.iload_n 2, 1) := by decide +kernel
theorem dX4_timeToWrite_8 : decode cX4_timeToWrite 8 = .ok (.invokevirtual 51, 3) := by decide +kernel
theorem dX4_timeToWrite_11 : decode cX4_timeToWrite 11 = .ok (.ldc2_w 49, 3) := by decide +kernel
theorem dX4_timeToWrite_14 : decode cX4_timeToWrite 14 = .ok (.lcmp, 1) := by decide +kernel
theorem dX4_timeToWrite_15 : decode cX4_timeToWrite 15 = .ok (.ifCond .eq 9, 3) := by decide +kernel
theorem dX4_timeToWrite_18 : decode cX4_timeToWrite 18 = .ok (.aload_n 0, 1) := by decide +kernel
theorem dX4_timeToWrite_19 : decode cX4_timeToWrite 19 = .ok (.iload_n 2, 1) := by decide +kernel
theorem dX4_timeToWrite_20 : decode cX4_timeToWrite 20 = .ok (.invokevirtual 51, 3) := by decide +kernel
theorem dX4_timeToWrite_23 : decode cX4_timeToWrite 23 = .ok (.lreturn, 1) := by decide +kernel
theorem dX4_timeToWrite_24 : decode cX4_timeToWrite 24 = .ok (.iinc 2 (-1), 3) := by decide +kernel
theorem dX4_timeToWrite_27 : decode cX4_timeToWrite 27 = .ok (.goto (-25), 3) := by decide +kernel
theorem dX4_timeToWrite_30 : decode cX4_timeToWrite 30 = .ok (.lconst 0, 1) := by decide +kernel
theorem dX4_timeToWrite_31 : decode cX4_timeToWrite 31 = .ok (.lreturn, 1) := by decide +kernel
set_option maxRecDepth 20000 in
theorem ggX4_isInOrderOfTime_X4_timeOf : GoodIn wsX4_isInOrderOfTime wsX4_timeOf := goodIn_r _ [11, 12, 1, 13, 14, 15, 10, 16, 2, 17, 18, 19, 20] (by decide +kernel) (by decide +kernel)
set_option maxRecDepth 20000 in
theorem gX4_isInOrderOfTime_X4_timeOf : GoodIn wsX4_isInOrderOfTime (wsV RX4 51 RX4 yX4_timeOf wsX4_timeOf) := goodIn_app (goodIn_of _ (by decide +kernel)) ggX4_isInOrderOfTime_X4_timeOf
theorem dX4_isInOrderOfTime_0 : decode cX4_isInOrderOfTime 0 = .ok (.ldc2_w 49, 3) := by decide +kernel
theorem dX4_isInOrderOfTime_3 : decode cX4_isInOrderOfTime 3 = .ok (.lstore_n 1, 1) := by decide +kernel
theorem dX4_isInOrderOfTime_4 : decode cX4_isInOrderOfTime 4 = .ok (.iconst 0, 1) := by decide +kernel
theorem dX4_isInOrderOfTime_5 : decode cX4_isInOrderOfTime 5 = .ok (.istore_n 3, 1) := by decide +kernel
theorem dX4_isInOrderOfTime_6 : decode cX4_isInOrderOfTime 6 = .ok (.iload_n 3, 1) := by decide +kernel
theorem dX4_isInOrderOfTime_7 : decode cX4_isInOrderOfTime 7 = .ok (.aload_n 0, 1) := by decide +kernel
theorem dX4_isInOrderOfTime_8 : decode cX4_isInOrderOfTime 8 = .ok (.getfield 28, 3) := by decide +kernel
theorem dX4_isInOrderOfTime_11 : decode cX4_isInOrderOfTime 11 = .ok (.if_icmp .ge 43, 3) := by decide +kernel
theorem dX4_isInOrderOfTime_14 : decode cX4_isInOrderOfTime 14 = .ok (.aload_n 0, 1) := by decide +kernel
theorem dX4_isInOrderOfTime_15 : decode cX4_isInOrderOfTime 15 = .ok (.iload_n 3, 1) := by decide +kernel
theorem dX4_isInOrderOfTime_16 : decode cX4_isInOrderOfTime 16 = .ok (.invokevirtual 51, 3) := by decide +kernel
theorem dX4_isInOrderOfTime_19 : decode cX4_isInOrderOfTime 19 = .ok (.ldc2_w 49, 3) := by decide +kernel
theorem dX4_isInOrderOfTime_22 : decode cX4_isInOrderOfTime 22 = .ok (.lcmp, 1) := by decide +kernel
theorem dX4_isInOrderOfTime_23 : decode cX4_isInOrderOfTime 23 = .ok (.ifCond .eq 15, 3) := by decide +kernel
theorem dX4_isInOrderOfTime_26 : decode cX4_isInOrderOfTime 26 = .ok (.aload_n 0, 1) := by decide +kernel
theorem dX4_isInOrderOfTime_27 : decode cX4_isInOrderOfTime 27 = .ok (.iload_n 3, 1) := by decide +kernel
theorem dX4_isInOrderOfTime_28 : decode cX4_isInOrderOfTime 28 = .ok (.invokevirtual 51, 3) := by decide +kernel
theorem dX4_isInOrderOfTime_31 : decode cX4_isInOrderOfTime 31 = .ok (.lload_n 1, 1) := by decide +kernel
theorem dX4_isInOrderOfTime_32 : decode cX4_isInOrderOfTime 32 = .ok (.lcmp, 1) := by decide +kernel
theorem dX4_isInOrderOfTime_33 : decode cX4_isInOrderOfTime 33 = .ok (.ifCond .ge 5, 3) := by decide +kernel
theorem dX4_isInOrderOfTime_36 : decode cX4_isInOrderOfTime 36 = .ok (.iconst 0, 1) := by decide +kernel
theorem dX4_isInOrderOfTime_37 : decode cX4_isInOrderOfTime 37 = .ok (.ireturn, 1) := by decide +kernel
theorem dX4_isInOrderOfTime_38 : decode cX4_isInOrderOfTime 38 = .ok (.lload_n 1, 1) := by decide +kernel
theorem dX4_isInOrderOfTime_39 : decode cX4_isInOrderOfTime 39 = .ok (.aload_n 0, 1) := by decide +kernel
theorem dX4_isInOrderOfTime_40 : decode cX4_isInOrderOfTime 40 = .ok (.iload_n 3, 1) := by decide +kernel
theorem dX4_isInOrderOfTime_41 : decode cX4_isInOrderOfTime 41 = .ok (.invokevirtual 51, 3) := by decide +kernel
theorem dX4_isInOrderOfTime_44 : decode cX4_isInOrderOfTime 44 = .ok (.invokestatic 55, 3) := by decide +kernel
theorem dX4_isInOrderOfTime_47 : decode cX4_isInOrderOfTime 47 = .ok (.lstore_n 1, 1) := by decide +kernel
theorem dX4_isInOrderOfTime_48 : decode cX4_isInOrderOfTime 48 = .ok (.iinc 3 1, 3) := by decide +kernel
theorem dX4_isInOrderOfTime_51 : decode cX4_isInOrderOfTime 51 = .ok (.goto (-45), 3) := by decide +kernel
theorem dX4_isInOrderOfTime_54 : decode cX4_isInOrderOfTime 54 = .ok (.iconst 1, 1) := by decide +kernel
theorem dX4_isInOrderOfTime_55 : decode cX4_isInOrderOfTime 55 = .ok (.ireturn, 1) := by decide +kernel
theorem dX4_hasRoom_0 : decode cX4_hasRoom 0 = .ok (.iload_n 1, 1) := by decide +kernel
theorem dX4_hasRoom_1 : decode cX4_hasRoom 1 = .ok (.bipush 64, 2) := by decide +kernel
theorem dX4_hasRoom_3 : decode cX4_hasRoom 3 = .ok (.aload_n 0, 1) := by decide +kernel
theorem dX4_hasRoom_4 : decode cX4_hasRoom 4 = .ok (.getfield 28, 3) := by decide +kernel
theorem dX4_hasRoom_7 : decode cX4_hasRoom 7 = .ok (.isub, 1) := by decide +kernel
theorem dX4_hasRoom_8 : decode cX4_hasRoom 8 = .ok (.if_icmp .gt 22, 3) := by decide +kernel
theorem dX4_hasRoom_11 : decode cX4_hasRoom 11 = .ok (.iload_n 2, 1) := by decide +kernel
theorem dX4_hasRoom_12 : decode cX4_hasRoom 12 = .ok (.sipush 2400, 3) := by decide +kernel
theorem dX4_hasRoom_15 : decode cX4_hasRoom 15 = .ok (.aload_n 0, 1) := by decide +kernel
theorem dX4_hasRoom_16 : decode cX4_hasRoom 16 = .ok (.getfield 14, 3) := by decide +kernel
theorem dX4_hasRoom_19 : decode cX4_hasRoom 19 = .ok (.getfield 61, 3) := by decide +kernel
theorem dX4_hasRoom_22 : decode cX4_hasRoom 22 = .ok (.isub, 1) := by decide +kernel
theorem dX4_hasRoom_23 : decode cX4_hasRoom 23 = .ok (.if_icmp .gt 7, 3) := by decide +kernel
theorem dX4_hasRoom_26 : decode cX4_hasRoom 26 = .ok (.iconst 1, 1) := by decide +kernel
theorem dX4_hasRoom_27 : decode cX4_hasRoom 27 = .ok (.goto 4, 3) := by decide +kernel
theorem dX4_hasRoom_30 : decode cX4_hasRoom 30 = .ok (.iconst 0, 1) := by decide +kernel
theorem dX4_hasRoom_31 : decode cX4_hasRoom 31 = .ok (.ireturn, 1) := by decide +kernel
theorem dX4_endPacket_0 : decode cX4_endPacket 0 = .ok (.aload_n 0, 1) := by decide +kernel
theorem dX4_endPacket_1 : decode cX4_endPacket 1 = .ok (.getfield 28, 3) := by decide +kernel
theorem dX4_endPacket_4 : decode cX4_endPacket 4 = .ok (.bipush 64, 2) := by decide +kernel
theorem dX4_endPacket_6 : decode cX4_endPacket 6 = .ok (.if_icmp .lt 4, 3) := by decide +kernel
theorem dX4_endPacket_9 : decode cX4_endPacket 9 = .ok (.return_, 1) := by decide +kernel
theorem dX4_endPacket_10 : decode cX4_endPacket 10 = .ok (.aload_n 0, 1) := by decide +kernel
theorem dX4_endPacket_11 : decode cX4_endPacket 11 = .ok (.getfield 20, 3) := by decide +kernel
theorem dX4_endPacket_14 : decode cX4_endPacket 14 = .ok (.aload_n 0, 1) := by decide +kernel
theorem dX4_endPacket_15 : decode cX4_endPacket 15 = .ok (.getfield 28, 3) := by decide +kernel
theorem dX4_endPacket_18 : decode cX4_endPacket 18 = .ok (.aload_n 0, 1) := by decide +kernel
theorem dX4_endPacket_19 : decode cX4_endPacket 19 = .ok (.getfield 14, 3) := by decide +kernel
theorem dX4_endPacket_22 : decode cX4_endPacket 22 = .ok (.getfield 61, 3) := by decide +kernel
theorem dX4_endPacket_25 : decode cX4_endPacket 25 = .ok (.iastore, 1) := by decide +kernel
theorem dX4_endPacket_26 : decode cX4_endPacket 26 = .ok (.aload_n 0, 1) := by decide +kernel
theorem dX4_endPacket_27 : decode cX4_endPacket 27 = .ok (.getfield 24, 3) := by decide +kernel
theorem dX4_endPacket_30 : decode cX4_endPacket 30 = .ok (.aload_n 0, 1) := by decide +kernel
theorem dX4_endPacket_31 : decode cX4_endPacket 31 = .ok (.getfield 28, 3) := by decide +kernel
theorem dX4_endPacket_34 : decode cX4_endPacket 34 = .ok (.lload_n 1, 1) := by decide +kernel
theorem dX4_endPacket_35 : decode cX4_endPacket 35 = .ok (.lastore, 1) := by decide +kernel
theorem dX4_endPacket_36 : decode cX4_endPacket 36 = .ok (.aload_n 0, 1) := by decide +kernel
theorem dX4_endPacket_37 : decode cX4_endPacket 37 = .ok (.dup, 1) := by decide +kernel
theorem dX4_endPacket_38 : decode cX4_endPacket 38 = .ok (.getfield 28, 3) := by decide +kernel
theorem dX4_endPacket_41 : decode cX4_endPacket 41 = .ok (.iconst 1, 1) := by decide +kernel
theorem dX4_endPacket_42 : decode cX4_endPacket 42 = .ok (.iadd, 1) := by decide +kernel
theorem dX4_endPacket_43 : decode cX4_endPacket 43 = .ok (.putfield 28, 3) := by decide +kernel
theorem dX4_endPacket_46 : decode cX4_endPacket 46 = .ok (.return_, 1) := by decide +kernel
set_option maxRecDepth 20000 in
theorem ggX5_isMarked_X8_highFirst : GoodIn wsX5_isMarked wsX8_highFirst := goodIn_r _ [6, 7, 8, 9, 5, 10, 11, 12, 13, 14, 15, 16] (by decide +kernel) (by decide +kernel)
set_option maxRecDepth 20000 in
theorem gX5_isMarked_X8_highFirst : GoodIn wsX5_isMarked (wsV RX5 9 RX8 yX8_highFirst wsX8_highFirst) := goodIn_app (goodIn_of _ (by decide +kernel)) ggX5_isMarked_X8_highFirst
theorem dX5_isMarked_0 : decode cX5_isMarked 0 = .ok (.aload_n 0, 1) := by decide +kernel
theorem dX5_isMarked_1 : decode cX5_isMarked 1 = .ok (.iload_n 1, 1) := by decide +kernel
theorem dX5_isMarked_2 : decode cX5_isMarked 2 = .ok (.iconst 4, 1) := by decide +kernel
theorem dX5_isMarked_3 : decode cX5_isMarked 3 = .ok (.invokevirtual 9, 3) := by decide +kernel
theorem dX5_isMarked_6 : decode cX5_isMarked 6 = .ok (.l2i, 1) := by decide +kernel
theorem dX5_isMarked_7 : decode cX5_isMarked 7 = .ok (.ldc 17, 2) := by decide +kernel
theorem dX5_isMarked_9 : decode cX5_isMarked 9 = .ok (.if_icmp .ne 7, 3) := by decide +kernel
theorem dX5_isMarked_12 : decode cX5_isMarked 12 = .ok (.iconst 1, 1) := by decide +kernel
theorem dX5_isMarked_13 : decode cX5_isMarked 13 = .ok (.goto 4, 3) := by decide +kernel
theorem dX5_isMarked_16 : decode cX5_isMarked 16 = .ok (.iconst 0, 1) := by decide +kernel
theorem dX5_isMarked_17 : decode cX5_isMarked 17 = .ok (.ireturn, 1) := by decide +kernel
set_option maxRecDepth 20000 in
theorem ggX5_endOf_X8_at : GoodIn wsX5_endOf wsX8_at := goodIn_r _ [5, 6, 7, 8, 9, 10, 11] (by decide +kernel) (by decide +kernel)
set_option maxRecDepth 20000 in
theorem gX5_endOf_X8_at : GoodIn wsX5_endOf (wsV RX5 18 RX8 yX8_at wsX8_at) := goodIn_app (goodIn_of _ (by decide +kernel)) ggX5_endOf_X8_at
theorem dX5_endOf_0 : decode cX5_endOf 0 = .ok (.iload_n 1, 1) := by decide +kernel
theorem dX5_endOf_1 : decode cX5_endOf 1 = .ok (.ifCond .lt 11, 3) := by decide +kernel
theorem dX5_endOf_4 : decode cX5_endOf 4 = .ok (.iload_n 2, 1) := by decide +kernel
theorem dX5_endOf_5 : decode cX5_endOf 5 = .ok (.iload_n 1, 1) := by decide +kernel
theorem dX5_endOf_6 : decode cX5_endOf 6 = .ok (.isub, 1) := by decide +kernel
theorem dX5_endOf_7 : decode cX5_endOf 7 = .ok (.bipush 27, 2) := by decide +kernel
theorem dX5_endOf_9 : decode cX5_endOf 9 = .ok (.if_icmp .ge 5, 3) := by decide +kernel
theorem dX5_endOf_12 : decode cX5_endOf 12 = .ok (.iconst (-1), 1) := by decide +kernel
theorem dX5_endOf_13 : decode cX5_endOf 13 = .ok (.ireturn, 1) := by decide +kernel
theorem dX5_endOf_14 : decode cX5_endOf 14 = .ok (.aload_n 0, 1) := by decide +kernel
theorem dX5_endOf_15 : decode cX5_endOf 15 = .ok (.iload_n 1, 1) := by decide +kernel
theorem dX5_endOf_16 : decode cX5_endOf 16 = .ok (.bipush 26, 2) := by decide +kernel
theorem dX5_endOf_18 : decode cX5_endOf 18 = .ok (.iadd, 1) := by decide +kernel
theorem dX5_endOf_19 : decode cX5_endOf 19 = .ok (.invokevirtual 18, 3) := by decide +kernel
theorem dX5_endOf_22 : decode cX5_endOf 22 = .ok (.istore_n 3, 1) := by decide +kernel
theorem dX5_endOf_23 : decode cX5_endOf 23 = .ok (.iload_n 1, 1) := by decide +kernel
theorem dX5_endOf_24 : decode cX5_endOf 24 = .ok (.bipush 27, 2) := by decide +kernel
theorem dX5_endOf_26 : decode cX5_endOf 26 = .ok (.iadd, 1) := by decide +kernel
theorem dX5_endOf_27 : decode cX5_endOf 27 = .ok (.iload_n 3, 1) := by decide +kernel
theorem dX5_endOf_28 : decode cX5_endOf 28 = .ok (.iadd, 1) := by decide +kernel
theorem dX5_endOf_29 : decode cX5_endOf 29 = .ok (.istore 4, 2) := by decide +kernel
theorem dX5_endOf_31 : decode cX5_endOf 31 = .ok (.iload 4, 2) := by decide +kernel
theorem dX5_endOf_33 : decode cX5_endOf 33 = .ok (.iload_n 2, 1) := by decide +kernel
theorem dX5_endOf_34 : decode cX5_endOf 34 = .ok (.if_icmp .le 5, 3) := by decide +kernel
theorem dX5_endOf_37 : decode cX5_endOf 37 = .ok (.iconst (-1), 1) := by decide +kernel
theorem dX5_endOf_38 : decode cX5_endOf 38 = .ok (.ireturn, 1) := by decide +kernel
theorem dX5_endOf_39 : decode cX5_endOf 39 = .ok (.iconst 0, 1) := by decide +kernel
theorem dX5_endOf_40 : decode cX5_endOf 40 = .ok (.istore 5, 2) := by decide +kernel
theorem dX5_endOf_42 : decode cX5_endOf 42 = .ok (.iload 5, 2) := by decide +kernel
theorem dX5_endOf_44 : decode cX5_endOf 44 = .ok (.iload_n 3, 1) := by decide +kernel
theorem dX5_endOf_45 : decode cX5_endOf 45 = .ok (.if_icmp .ge 25, 3) := by decide +kernel
theorem dX5_endOf_48 : decode cX5_endOf 48 = .ok (.iload 4, 2) := by decide +kernel
theorem dX5_endOf_50 : decode cX5_endOf 50 = .ok (.aload_n 0, 1) := by decide +kernel
theorem dX5_endOf_51 : decode cX5_endOf 51 = .ok (.iload_n 1, 1) := by decide +kernel
theorem dX5_endOf_52 : decode cX5_endOf 52 = .ok (.bipush 27, 2) := by decide +kernel
theorem dX5_endOf_54 : decode cX5_endOf 54 = .ok (.iadd, 1) := by decide +kernel
theorem dX5_endOf_55 : decode cX5_endOf 55 = .ok (.iload 5, 2) := by decide +kernel
theorem dX5_endOf_57 : decode cX5_endOf 57 = .ok (.iadd, 1) := by decide +kernel
theorem dX5_endOf_58 : decode cX5_endOf 58 = .ok (.invokevirtual 18, 3) := by decide +kernel
theorem dX5_endOf_61 : decode cX5_endOf 61 = .ok (.iadd, 1) := by decide +kernel
theorem dX5_endOf_62 : decode cX5_endOf 62 = .ok (.istore 4, 2) := by decide +kernel
theorem dX5_endOf_64 : decode cX5_endOf 64 = .ok (.iinc 5 1, 3) := by decide +kernel
theorem dX5_endOf_67 : decode cX5_endOf 67 = .ok (.goto (-25), 3) := by decide +kernel
theorem dX5_endOf_70 : decode cX5_endOf 70 = .ok (.iload 4, 2) := by decide +kernel
theorem dX5_endOf_72 : decode cX5_endOf 72 = .ok (.iload_n 2, 1) := by decide +kernel
theorem dX5_endOf_73 : decode cX5_endOf 73 = .ok (.if_icmp .gt 8, 3) := by decide +kernel
theorem dX5_endOf_76 : decode cX5_endOf 76 = .ok (.iload 4, 2) := by decide +kernel
theorem dX5_endOf_78 : decode cX5_endOf 78 = .ok (.goto 4, 3) := by decide +kernel
theorem dX5_endOf_81 : decode cX5_endOf 81 = .ok (.iconst (-1), 1) := by decide +kernel
theorem dX5_endOf_82 : decode cX5_endOf 82 = .ok (.ireturn, 1) := by decide +kernel
set_option maxRecDepth 20000 in
theorem ggX5_sumOf_X8_at : GoodIn wsX5_sumOf wsX8_at := goodIn_r _ [6, 7, 8, 9, 10, 11, 12] (by decide +kernel) (by decide +kernel)
set_option maxRecDepth 20000 in
theorem gX5_sumOf_X8_at : GoodIn wsX5_sumOf (wsV RX5 18 RX8 yX8_at wsX8_at) := goodIn_app (goodIn_of _ (by decide +kernel)) ggX5_sumOf_X8_at
theorem dX5_sumOf_0 : decode cX5_sumOf 0 = .ok (.iconst 0, 1) := by decide +kernel
theorem dX5_sumOf_1 : decode cX5_sumOf 1 = .ok (.istore_n 3, 1) := by decide +kernel
theorem dX5_sumOf_2 : decode cX5_sumOf 2 = .ok (.iload_n 1, 1) := by decide +kernel
theorem dX5_sumOf_3 : decode cX5_sumOf 3 = .ok (.istore 4, 2) := by decide +kernel
theorem dX5_sumOf_5 : decode cX5_sumOf 5 = .ok (.iload 4, 2) := by decide +kernel
theorem dX5_sumOf_7 : decode cX5_sumOf 7 = .ok (.iload_n 2, 1) := by decide +kernel
theorem dX5_sumOf_8 : decode cX5_sumOf 8 = .ok (.if_icmp .ge 93, 3) := by decide +kernel
theorem dX5_sumOf_11 : decode cX5_sumOf 11 = .ok (.iload 4, 2) := by decide +kernel
theorem dX5_sumOf_13 : decode cX5_sumOf 13 = .ok (.iload_n 1, 1) := by decide +kernel
theorem dX5_sumOf_14 : decode cX5_sumOf 14 = .ok (.bipush 22, 2) := by decide +kernel
theorem dX5_sumOf_16 : decode cX5_sumOf 16 = .ok (.iadd, 1) := by decide +kernel
theorem dX5_sumOf_17 : decode cX5_sumOf 17 = .ok (.if_icmp .lt 18, 3) := by decide +kernel
theorem dX5_sumOf_20 : decode cX5_sumOf 20 = .ok (.iload 4, 2) := by decide +kernel
theorem dX5_sumOf_22 : decode cX5_sumOf 22 = .ok (.iload_n 1, 1) := by decide +kernel
theorem dX5_sumOf_23 : decode cX5_sumOf 23 = .ok (.bipush 22, 2) := by decide +kernel
theorem dX5_sumOf_25 : decode cX5_sumOf 25 = .ok (.iadd, 1) := by decide +kernel
theorem dX5_sumOf_26 : decode cX5_sumOf 26 = .ok (.iconst 4, 1) := by decide +kernel
theorem dX5_sumOf_27 : decode cX5_sumOf 27 = .ok (.iadd, 1) := by decide +kernel
theorem dX5_sumOf_28 : decode cX5_sumOf 28 = .ok (.if_icmp .ge 7, 3) := by decide +kernel
theorem dX5_sumOf_31 : decode cX5_sumOf 31 = .ok (.iconst 1, 1) := by decide +kernel
theorem dX5_sumOf_32 : decode cX5_sumOf 32 = .ok (.goto 4, 3) := by decide +kernel
theorem dX5_sumOf_35 : decode cX5_sumOf 35 = .ok (.iconst 0, 1) := by decide +kernel
theorem dX5_sumOf_36 : decode cX5_sumOf 36 = .ok (.istore 5, 2) := by decide +kernel
theorem dX5_sumOf_38 : decode cX5_sumOf 38 = .ok (.iload 5, 2) := by decide +kernel
theorem dX5_sumOf_40 : decode cX5_sumOf 40 = .ok (.ifCond .eq 7, 3) := by decide +kernel
theorem dX5_sumOf_43 : decode cX5_sumOf 43 = .ok (.iconst 0, 1) := by decide +kernel
theorem dX5_sumOf_44 : decode cX5_sumOf 44 = .ok (.goto 9, 3) := by decide +kernel
theorem dX5_sumOf_47 : decode cX5_sumOf 47 = .ok (.aload_n 0, 1) := by decide +kernel
theorem dX5_sumOf_48 : decode cX5_sumOf 48 = .ok (.iload 4, 2) := by decide +kernel
theorem dX5_sumOf_50 : decode cX5_sumOf 50 = .ok (.invokevirtual 18, 3) := by decide +kernel
theorem dX5_sumOf_53 : decode cX5_sumOf 53 = .ok (.istore 6, 2) := by decide +kernel
theorem dX5_sumOf_55 : decode cX5_sumOf 55 = .ok (.iload_n 3, 1) := by decide +kernel
theorem dX5_sumOf_56 : decode cX5_sumOf 56 = .ok (.iconst 4, 1) := by decide +kernel
theorem dX5_sumOf_57 : decode cX5_sumOf 57 = .ok (.ishl, 1) := by decide +kernel
theorem dX5_sumOf_58 : decode cX5_sumOf 58 = .ok (.getstatic 22, 3) := by decide +kernel
theorem dX5_sumOf_61 : decode cX5_sumOf 61 = .ok (.iload_n 3, 1) := by decide +kernel
theorem dX5_sumOf_62 : decode cX5_sumOf 62 = .ok (.bipush 28, 2) := by decide +kernel
theorem dX5_sumOf_64 : decode cX5_sumOf 64 = .ok (.iushr, 1) := by decide +kernel
theorem dX5_sumOf_65 : decode cX5_sumOf 65 = .ok (.iload 6, 2) := by decide +kernel
theorem dX5_sumOf_67 : decode cX5_sumOf 67 = .ok (.iconst 4, 1) := by decide +kernel
theorem dX5_sumOf_68 : decode cX5_sumOf 68 = .ok (.ishr, 1) := by decide +kernel
theorem dX5_sumOf_69 : decode cX5_sumOf 69 = .ok (.ixor, 1) := by decide +kernel
theorem dX5_sumOf_70 : decode cX5_sumOf 70 = .ok (.bipush 15, 2) := by decide +kernel
theorem dX5_sumOf_72 : decode cX5_sumOf 72 = .ok (.iand, 1) := by decide +kernel
theorem dX5_sumOf_73 : decode cX5_sumOf 73 = .ok (.iaload, 1) := by decide +kernel
theorem dX5_sumOf_74 : decode cX5_sumOf 74 = .ok (.ixor, 1) := by decide +kernel
theorem dX5_sumOf_75 : decode cX5_sumOf 75 = .ok (.istore_n 3, 1) := by decide +kernel
theorem dX5_sumOf_76 : decode cX5_sumOf 76 = .ok (.iload_n 3, 1) := by decide +kernel
theorem dX5_sumOf_77 : decode cX5_sumOf 77 = .ok (.iconst 4, 1) := by decide +kernel
theorem dX5_sumOf_78 : decode cX5_sumOf 78 = .ok (.ishl, 1) := by decide +kernel
theorem dX5_sumOf_79 : decode cX5_sumOf 79 = .ok (.getstatic 22, 3) := by decide +kernel
theorem dX5_sumOf_82 : decode cX5_sumOf 82 = .ok (.iload_n 3, 1) := by decide +kernel
theorem dX5_sumOf_83 : decode cX5_sumOf 83 = .ok (.bipush 28, 2) := by decide +kernel
theorem dX5_sumOf_85 : decode cX5_sumOf 85 = .ok (.iushr, 1) := by decide +kernel
theorem dX5_sumOf_86 : decode cX5_sumOf 86 = .ok (.iload 6, 2) := by decide +kernel
theorem dX5_sumOf_88 : decode cX5_sumOf 88 = .ok (.ixor, 1) := by decide +kernel
theorem dX5_sumOf_89 : decode cX5_sumOf 89 = .ok (.bipush 15, 2) := by decide +kernel
theorem dX5_sumOf_91 : decode cX5_sumOf 91 = .ok (.iand, 1) := by decide +kernel
theorem dX5_sumOf_92 : decode cX5_sumOf 92 = .ok (.iaload, 1) := by decide +kernel
theorem dX5_sumOf_93 : decode cX5_sumOf 93 = .ok (.ixor, 1) := by decide +kernel
theorem dX5_sumOf_94 : decode cX5_sumOf 94 = .ok (.istore_n 3, 1) := by decide +kernel
theorem dX5_sumOf_95 : decode cX5_sumOf 95 = .ok (.iinc 4 1, 3) := by decide +kernel
theorem dX5_sumOf_98 : decode cX5_sumOf 98 = .ok (.goto (-93), 3) := by decide +kernel
theorem dX5_sumOf_101 : decode cX5_sumOf 101 = .ok (.iload_n 3, 1) := by decide +kernel
theorem dX5_sumOf_102 : decode cX5_sumOf 102 = .ok (.ireturn, 1) := by decide +kernel
set_option maxRecDepth 20000 in
theorem ggX5_makeSumRight_X5_sumOf : GoodIn wsX5_makeSumRight wsX5_sumOf := goodIn_r _ [4, 5, 6, 7, 8, 9, 10, 11, 12, 17, 18, 19, 20] (by decide +kernel) (by decide +kernel)
set_option maxRecDepth 20000 in
theorem gX5_makeSumRight_X5_sumOf : GoodIn wsX5_makeSumRight (va_wsS RX5 26 yX5_sumOf wsX5_sumOf) := goodIn_app (goodIn_of _ (by decide +kernel)) ggX5_makeSumRight_X5_sumOf
set_option maxRecDepth 20000 in
theorem ggX5_makeSumRight_X8_change : GoodIn wsX5_makeSumRight wsX8_change := goodIn_r _ [16, 11, 12, 17, 18, 19, 20] (by decide +kernel) (by decide +kernel)
set_option maxRecDepth 20000 in
theorem gX5_makeSumRight_X8_change : GoodIn wsX5_makeSumRight (wsV RX5 30 RX8 yX8_change wsX8_change) := goodIn_app (goodIn_of _ (by decide +kernel)) ggX5_makeSumRight_X8_change
theorem dX5_makeSumRight_0 : decode cX5_makeSumRight 0 = .ok (.aload_n 0, 1) := by decide +kernel
theorem dX5_makeSumRight_1 : decode cX5_makeSumRight 1 = .ok (.iload_n 1, 1) := by decide +kernel
theorem dX5_makeSumRight_2 : decode cX5_makeSumRight 2 = .ok (.iload_n 2, 1) := by decide +kernel
theorem dX5_makeSumRight_3 : decode cX5_makeSumRight 3 = .ok (.invokestatic 26, 3) := by decide +kernel
theorem dX5_makeSumRight_6 : decode cX5_makeSumRight 6 = .ok (.istore_n 3, 1) := by decide +kernel
theorem dX5_makeSumRight_7 : decode cX5_makeSumRight 7 = .ok (.iconst 0, 1) := by decide +kernel
theorem dX5_makeSumRight_8 : decode cX5_makeSumRight 8 = .ok (.istore 4, 2) := by decide +kernel
theorem dX5_makeSumRight_10 : decode cX5_makeSumRight 10 = .ok (.iload 4, 2) := by decide +kernel
theorem dX5_makeSumRight_12 : decode cX5_makeSumRight 12 = .ok (.iconst 4, 1) := by decide +kernel
theorem dX5_makeSumRight_13 : decode cX5_makeSumRight 13 = .ok (.if_icmp .ge 28, 3) := by decide +kernel
theorem dX5_makeSumRight_16 : decode cX5_makeSumRight 16 = .ok (.aload_n 0, 1) := by decide +kernel
theorem dX5_makeSumRight_17 : decode cX5_makeSumRight 17 = .ok (.iload_n 1, 1) := by decide +kernel
theorem dX5_makeSumRight_18 : decode cX5_makeSumRight 18 = .ok (.bipush 22, 2) := by decide +kernel
theorem dX5_makeSumRight_20 : decode cX5_makeSumRight 20 = .ok (.iadd, 1) := by decide +kernel
theorem dX5_makeSumRight_21 : decode cX5_makeSumRight 21 = .ok (.iload 4, 2) := by decide +kernel
theorem dX5_makeSumRight_23 : decode cX5_makeSumRight 23 = .ok (.iadd, 1) := by decide +kernel
theorem dX5_makeSumRight_24 : decode cX5_makeSumRight 24 = .ok (.iload_n 3, 1) := by decide +kernel
theorem dX5_makeSumRight_25 : decode cX5_makeSumRight 25 = .ok (.bipush 8, 2) := by decide +kernel
theorem dX5_makeSumRight_27 : decode cX5_makeSumRight 27 = .ok (.iload 4, 2) := by decide +kernel
theorem dX5_makeSumRight_29 : decode cX5_makeSumRight 29 = .ok (.imul, 1) := by decide +kernel
theorem dX5_makeSumRight_30 : decode cX5_makeSumRight 30 = .ok (.iushr, 1) := by decide +kernel
theorem dX5_makeSumRight_31 : decode cX5_makeSumRight 31 = .ok (.invokevirtual 30, 3) := by decide +kernel
theorem dX5_makeSumRight_34 : decode cX5_makeSumRight 34 = .ok (.pop, 1) := by decide +kernel
theorem dX5_makeSumRight_35 : decode cX5_makeSumRight 35 = .ok (.iinc 4 1, 3) := by decide +kernel
theorem dX5_makeSumRight_38 : decode cX5_makeSumRight 38 = .ok (.goto (-28), 3) := by decide +kernel
theorem dX5_makeSumRight_41 : decode cX5_makeSumRight 41 = .ok (.return_, 1) := by decide +kernel
theorem dX6_init_0 : decode cX6_init 0 = .ok (.aload_n 0, 1) := by decide +kernel
theorem dX6_init_1 : decode cX6_init 1 = .ok (.invokespecial 3, 3) := by decide +kernel
theorem dX6_init_4 : decode cX6_init 4 = .ok (.return_, 1) := by decide +kernel
set_option maxRecDepth 20000 in
theorem ggX6_read_X6_faultOf : GoodIn wsX6_read wsX6_faultOf := goodIn_r _ [14, 2, 1, 5, 3, 15, 16, 17, 18, 19, 20, 21, 22, 23, 24, 25, 26, 27, 28, 29, 30, 31, 32, 33, 34, 35, 36, 37, 38, 39, 40, 41, 42, 13, 43, 44, 45, 46, 47, 48, 49, 50, 51, 6, 4, 52, 53, 54, 55, 56, 57, 58, 59, 60, 61, 7, 62, 63, 64, 65, 66, 67, 68, 69, 70, 100, 101, 102, 103, 104, 105, 106, 107, 108, 109, 110, 111, 112, 113, 114, 115, 116, 117] (by decide +kernel) (by decide +kernel)
set_option maxRecDepth 20000 in
theorem gX6_read_X6_faultOf : GoodIn wsX6_read (wsV RX6 43 RX6 yX6_faultOf wsX6_faultOf) := goodIn_app (goodIn_of _ (by decide +kernel)) ggX6_read_X6_faultOf
set_option maxRecDepth 20000 in
theorem ggX6_read_X6_takePage : GoodIn wsX6_read wsX6_takePage := goodIn_r _ [74, 1, 7, 3, 75, 5, 61, 6, 52, 4, 31, 26, 27, 23, 28, 29, 30, 53, 54, 55, 13, 56, 44, 45, 46, 47, 25, 76, 77, 78, 79, 80, 81, 82, 83, 84, 85, 86, 87, 88, 89, 90, 91, 92, 66, 93, 68, 94, 69, 70, 95, 40, 41, 42, 43, 100, 101, 102, 103, 104, 105, 106, 107, 108, 109, 114, 115, 116, 117, 110, 111, 112, 113] (by decide +kernel) (by decide +kernel)
set_option maxRecDepth 20000 in
theorem gX6_read_X6_takePage : GoodIn wsX6_read (wsV RX6 47 RX6 yX6_takePage wsX6_takePage) := goodIn_app (goodIn_of _ (by decide +kernel)) ggX6_read_X6_takePage
set_option maxRecDepth 20000 in
theorem ggX6_read_X6_faultAtEnd : GoodIn wsX6_read wsX6_faultAtEnd := goodIn_r _ [99, 4, 6, 5, 100, 101, 102, 103, 104, 105, 106, 107, 108, 109] (by decide +kernel) (by decide +kernel)
set_option maxRecDepth 20000 in
theorem gX6_read_X6_faultAtEnd : GoodIn wsX6_read (wsV RX6 50 RX6 yX6_faultAtEnd wsX6_faultAtEnd) := goodIn_app (goodIn_of _ (by decide +kernel)) ggX6_read_X6_faultAtEnd
theorem dX6_read_0 : decode cX6_read 0 = .ok (.aload_n 0, 1) := by decide +kernel
theorem dX6_read_1 : decode cX6_read 1 = .ok (.aload_n 1, 1) := by decide +kernel
theorem dX6_read_2 : decode cX6_read 2 = .ok (.putfield 9, 3) := by decide +kernel
theorem dX6_read_5 : decode cX6_read 5 = .ok (.aload_n 0, 1) := by decide +kernel
theorem dX6_read_6 : decode cX6_read 6 = .ok (.iload_n 2, 1) := by decide +kernel
theorem dX6_read_7 : decode cX6_read 7 = .ok (.putfield 15, 3) := by decide +kernel
theorem dX6_read_10 : decode cX6_read 10 = .ok (.aload_n 0, 1) := by decide +kernel
theorem dX6_read_11 : decode cX6_read 11 = .ok (.aload_n 3, 1) := by decide +kernel
theorem dX6_read_12 : decode cX6_read 12 = .ok (.putfield 19, 3) := by decide +kernel
theorem dX6_read_15 : decode cX6_read 15 = .ok (.aload_n 0, 1) := by decide +kernel
theorem dX6_read_16 : decode cX6_read 16 = .ok (.iconst 0, 1) := by decide +kernel
theorem dX6_read_17 : decode cX6_read 17 = .ok (.putfield 23, 3) := by decide +kernel
theorem dX6_read_20 : decode cX6_read 20 = .ok (.aload_n 0, 1) := by decide +kernel
theorem dX6_read_21 : decode cX6_read 21 = .ok (.iconst 0, 1) := by decide +kernel
theorem dX6_read_22 : decode cX6_read 22 = .ok (.putfield 26, 3) := by decide +kernel
theorem dX6_read_25 : decode cX6_read 25 = .ok (.aload_n 0, 1) := by decide +kernel
theorem dX6_read_26 : decode cX6_read 26 = .ok (.iconst 0, 1) := by decide +kernel
theorem dX6_read_27 : decode cX6_read 27 = .ok (.putfield 30, 3) := by decide +kernel
theorem dX6_read_30 : decode cX6_read 30 = .ok (.aload_n 0, 1) := by decide +kernel
theorem dX6_read_31 : decode cX6_read 31 = .ok (.lconst 0, 1) := by decide +kernel
theorem dX6_read_32 : decode cX6_read 32 = .ok (.putfield 33, 3) := by decide +kernel
theorem dX6_read_35 : decode cX6_read 35 = .ok (.aload_n 0, 1) := by decide +kernel
theorem dX6_read_36 : decode cX6_read 36 = .ok (.iconst 0, 1) := by decide +kernel
theorem dX6_read_37 : decode cX6_read 37 = .ok (.putfield 37, 3) := by decide +kernel
theorem dX6_read_40 : decode cX6_read 40 = .ok (.iconst 0, 1) := by decide +kernel
theorem dX6_read_41 : decode cX6_read 41 = .ok (.istore 4, 2) := by decide +kernel
theorem dX6_read_43 : decode cX6_read 43 = .ok (.iconst 0, 1) := by decide +kernel
theorem dX6_read_44 : decode cX6_read 44 = .ok (.istore 5, 2) := by decide +kernel
theorem dX6_read_46 : decode cX6_read 46 = .ok (.iload 5, 2) := by decide +kernel
theorem dX6_read_48 : decode cX6_read 48 = .ok (.aload_n 0, 1) := by decide +kernel
theorem dX6_read_49 : decode cX6_read 49 = .ok (.getfield 15, 3) := by decide +kernel
theorem dX6_read_52 : decode cX6_read 52 = .ok (.if_icmp .ge 56, 3) := by decide +kernel
theorem dX6_read_55 : decode cX6_read 55 = .ok (.iload 4, 2) := by decide +kernel
theorem dX6_read_57 : decode cX6_read 57 = .ok (.aload_n 0, 1) := by decide +kernel
theorem dX6_read_58 : decode cX6_read 58 = .ok (.getfield 15, 3) := by decide +kernel
theorem dX6_read_61 : decode cX6_read 61 = .ok (.if_icmp .ge 47, 3) := by decide +kernel
theorem dX6_read_64 : decode cX6_read 64 = .ok (.aload_n 0, 1) := by decide +kernel
theorem dX6_read_65 : decode cX6_read 65 = .ok (.getfield 37, 3) := by decide +kernel
theorem dX6_read_68 : decode cX6_read 68 = .ok (.ifCond .ne 40, 3) := by decide +kernel
theorem dX6_read_71 : decode cX6_read 71 = .ok (.aload_n 0, 1) := by decide +kernel
theorem dX6_read_72 : decode cX6_read 72 = .ok (.iload 4, 2) := by decide +kernel
theorem dX6_read_74 : decode cX6_read 74 = .ok (.putfield 40, 3) := by decide +kernel
theorem dX6_read_77 : decode cX6_read 77 = .ok (.aload_n 0, 1) := by decide +kernel
theorem dX6_read_78 : decode cX6_read 78 = .ok (.aload_n 0, 1) := by decide +kernel
theorem dX6_read_79 : decode cX6_read 79 = .ok (.iload 4, 2) := by decide +kernel
theorem dX6_read_81 : decode cX6_read 81 = .ok (.invokevirtual 43, 3) := by decide +kernel
theorem dX6_read_84 : decode cX6_read 84 = .ok (.putfield 37, 3) := by decide +kernel
theorem dX6_read_87 : decode cX6_read 87 = .ok (.aload_n 0, 1) := by decide +kernel
theorem dX6_read_88 : decode cX6_read 88 = .ok (.getfield 37, 3) := by decide +kernel
theorem dX6_read_91 : decode cX6_read 91 = .ok (.ifCond .ne 11, 3) := by decide +kernel
theorem dX6_read_94 : decode cX6_read 94 = .ok (.aload_n 0, 1) := by decide +kernel
theorem dX6_read_95 : decode cX6_read 95 = .ok (.iload 4, 2) := by decide +kernel
theorem dX6_read_97 : decode cX6_read 97 = .ok (.invokevirtual 47, 3) := by decide +kernel
theorem dX6_read_100 : decode cX6_read 100 = .ok (.istore 4, 2) := by decide +kernel
theorem dX6_read_102 : decode cX6_read 102 = .ok (.iinc 5 1, 3) := by decide +kernel
theorem dX6_read_105 : decode cX6_read 105 = .ok (.goto (-59), 3) := by decide +kernel
theorem dX6_read_108 : decode cX6_read 108 = .ok (.aload_n 0, 1) := by decide +kernel
theorem dX6_read_109 : decode cX6_read 109 = .ok (.getfield 37, 3) := by decide +kernel
theorem dX6_read_112 : decode cX6_read 112 = .ok (.ifCond .ne 19, 3) := by decide +kernel
theorem dX6_read_115 : decode cX6_read 115 = .ok (.aload_n 0, 1) := by decide +kernel
theorem dX6_read_116 : decode cX6_read 116 = .ok (.aload_n 0, 1) := by decide +kernel
theorem dX6_read_117 : decode cX6_read 117 = .ok (.getfield 15, 3) := by decide +kernel
theorem dX6_read_120 : decode cX6_read 120 = .ok (.putfield 40, 3) := by decide +kernel
theorem dX6_read_123 : decode cX6_read 123 = .ok (.aload_n 0, 1) := by decide +kernel
theorem dX6_read_124 : decode cX6_read 124 = .ok (.aload_n 0, 1) := by decide +kernel
theorem dX6_read_125 : decode cX6_read 125 = .ok (.invokevirtual 50, 3) := by decide +kernel
theorem dX6_read_128 : decode cX6_read 128 = .ok (.putfield 37, 3) := by decide +kernel
theorem dX6_read_131 : decode cX6_read 131 = .ok (.aload_n 0, 1) := by decide +kernel
theorem dX6_read_132 : decode cX6_read 132 = .ok (.getfield 37, 3) := by decide +kernel
theorem dX6_read_135 : decode cX6_read 135 = .ok (.ifCond .ne 8, 3) := by decide +kernel
theorem dX6_read_138 : decode cX6_read 138 = .ok (.aload_n 0, 1) := by decide +kernel
theorem dX6_read_139 : decode cX6_read 139 = .ok (.iconst (-1), 1) := by decide +kernel
theorem dX6_read_140 : decode cX6_read 140 = .ok (.putfield 40, 3) := by decide +kernel
theorem dX6_read_143 : decode cX6_read 143 = .ok (.return_, 1) := by decide +kernel
theorem dX6_faultAtEnd_0 : decode cX6_faultAtEnd 0 = .ok (.aload_n 0, 1) := by decide +kernel
theorem dX6_faultAtEnd_1 : decode cX6_faultAtEnd 1 = .ok (.getfield 23, 3) := by decide +kernel
theorem dX6_faultAtEnd_4 : decode cX6_faultAtEnd 4 = .ok (.ifCond .ne 5, 3) := by decide +kernel
theorem dX6_faultAtEnd_7 : decode cX6_faultAtEnd 7 = .ok (.iconst 1, 1) := by decide +kernel
theorem dX6_faultAtEnd_8 : decode cX6_faultAtEnd 8 = .ok (.ireturn, 1) := by decide +kernel
theorem dX6_faultAtEnd_9 : decode cX6_faultAtEnd 9 = .ok (.aload_n 0, 1) := by decide +kernel
theorem dX6_faultAtEnd_10 : decode cX6_faultAtEnd 10 = .ok (.getfield 30, 3) := by decide +kernel
theorem dX6_faultAtEnd_13 : decode cX6_faultAtEnd 13 = .ok (.ifCond .ne 5, 3) := by decide +kernel
theorem dX6_faultAtEnd_16 : decode cX6_faultAtEnd 16 = .ok (.iconst 5, 1) := by decide +kernel
theorem dX6_faultAtEnd_17 : decode cX6_faultAtEnd 17 = .ok (.ireturn, 1) := by decide +kernel
theorem dX6_faultAtEnd_18 : decode cX6_faultAtEnd 18 = .ok (.aload_n 0, 1) := by decide +kernel
theorem dX6_faultAtEnd_19 : decode cX6_faultAtEnd 19 = .ok (.getfield 26, 3) := by decide +kernel
theorem dX6_faultAtEnd_22 : decode cX6_faultAtEnd 22 = .ok (.ifCond .eq 8, 3) := by decide +kernel
theorem dX6_faultAtEnd_25 : decode cX6_faultAtEnd 25 = .ok (.bipush 6, 2) := by decide +kernel
theorem dX6_faultAtEnd_27 : decode cX6_faultAtEnd 27 = .ok (.goto 4, 3) := by decide +kernel
theorem dX6_faultAtEnd_30 : decode cX6_faultAtEnd 30 = .ok (.iconst 0, 1) := by decide +kernel
theorem dX6_faultAtEnd_31 : decode cX6_faultAtEnd 31 = .ok (.ireturn, 1) := by decide +kernel
set_option maxRecDepth 20000 in
theorem ggX6_faultOf_X5_isMarked : GoodIn wsX6_faultOf wsX5_isMarked := goodIn_r _ [8, 9, 10, 11, 12, 13, 14, 15, 16, 17, 18, 19, 20, 75, 76, 77, 78] (by decide +kernel) (by decide +kernel)
set_option maxRecDepth 20000 in
theorem gX6_faultOf_X5_isMarked : GoodIn wsX6_faultOf (va_wsS RX6 56 yX5_isMarked wsX5_isMarked) := goodIn_app (goodIn_of _ (by decide +kernel)) ggX6_faultOf_X5_isMarked
set_option maxRecDepth 20000 in
theorem ggX6_faultOf_X8_at : GoodIn wsX6_faultOf wsX8_at := goodIn_r _ [18, 19, 20, 75, 76, 77, 78] (by decide +kernel) (by decide +kernel)
set_option maxRecDepth 20000 in
theorem gX6_faultOf_X8_at : GoodIn wsX6_faultOf (wsV RX6 60 RX8 yX8_at wsX8_at) := goodIn_app (goodIn_of _ (by decide +kernel)) ggX6_faultOf_X8_at
set_option maxRecDepth 20000 in
theorem ggX6_faultOf_X5_endOf : GoodIn wsX6_faultOf wsX5_endOf := goodIn_r _ [24, 25, 16, 17, 13, 18, 19, 20, 75, 76, 77, 78] (by decide +kernel) (by decide +kernel)
set_option maxRecDepth 20000 in
theorem gX6_faultOf_X5_endOf : GoodIn wsX6_faultOf (va_wsS RX6 65 yX5_endOf wsX5_endOf) := goodIn_app (goodIn_of _ (by decide +kernel)) ggX6_faultOf_X5_endOf
set_option maxRecDepth 20000 in
theorem ggX6_faultOf_X5_sumOf : GoodIn wsX6_faultOf wsX5_sumOf := goodIn_r _ [28, 29, 25, 16, 17, 13, 18, 19, 20, 75, 76, 77, 78] (by decide +kernel) (by decide +kernel)
set_option maxRecDepth 20000 in
theorem gX6_faultOf_X5_sumOf : GoodIn wsX6_faultOf (va_wsS RX6 69 yX5_sumOf wsX5_sumOf) := goodIn_app (goodIn_of _ (by decide +kernel)) ggX6_faultOf_X5_sumOf
set_option maxRecDepth 20000 in
theorem ggX6_faultOf_X6_numberAt : GoodIn wsX6_faultOf wsX6_numberAt := goodIn_r _ [34, 2, 35, 36, 37, 13, 38, 15, 16, 17, 18, 19, 20, 65, 66, 67, 68, 69, 70, 71, 72, 73, 74, 75, 76, 77, 78] (by decide +kernel) (by decide +kernel)
set_option maxRecDepth 20000 in
theorem gX6_faultOf_X6_numberAt : GoodIn wsX6_faultOf (wsV RX6 72 RX6 yX6_numberAt wsX6_numberAt) := goodIn_app (goodIn_of _ (by decide +kernel)) ggX6_faultOf_X6_numberAt
set_option maxRecDepth 20000 in
theorem ggX6_faultOf_X6_isOutOfOrder : GoodIn wsX6_faultOf wsX6_isOutOfOrder := goodIn_r _ [42, 43, 44, 45, 30, 31, 32, 33, 34, 2, 35, 36, 37, 13, 38, 15, 16, 17, 18, 19, 20, 65, 66, 67, 68, 69, 70, 71, 72, 73, 74, 75, 76, 77, 78] (by decide +kernel) (by decide +kernel)
set_option maxRecDepth 20000 in
theorem gX6_faultOf_X6_isOutOfOrder : GoodIn wsX6_faultOf (wsV RX6 75 RX6 yX6_isOutOfOrder wsX6_isOutOfOrder) := goodIn_app (goodIn_of _ (by decide +kernel)) ggX6_faultOf_X6_isOutOfOrder
set_option maxRecDepth 20000 in
theorem ggX6_faultOf_X6_packetsEnding : GoodIn wsX6_faultOf wsX6_packetsEnding := goodIn_r _ [49, 2, 21, 16, 17, 13, 18, 19, 20, 65, 66, 67, 68, 69, 70, 71, 72, 73, 74, 75, 76, 77, 78] (by decide +kernel) (by decide +kernel)
set_option maxRecDepth 20000 in
theorem gX6_faultOf_X6_packetsEnding : GoodIn wsX6_faultOf (wsV RX6 79 RX6 yX6_packetsEnding wsX6_packetsEnding) := goodIn_app (goodIn_of _ (by decide +kernel)) ggX6_faultOf_X6_packetsEnding
set_option maxRecDepth 20000 in
theorem ggX6_faultOf_X8_lowFirst : GoodIn wsX6_faultOf wsX8_lowFirst := goodIn_r _ [38, 15, 16, 17, 13, 18, 19, 20, 75, 76, 77, 78] (by decide +kernel) (by decide +kernel)
set_option maxRecDepth 20000 in
theorem gX6_faultOf_X8_lowFirst : GoodIn wsX6_faultOf (wsV RX6 82 RX8 yX8_lowFirst wsX8_lowFirst) := goodIn_app (goodIn_of _ (by decide +kernel)) ggX6_faultOf_X8_lowFirst
set_option maxRecDepth 20000 in
theorem ggX6_faultOf_X6_isTimeWrong : GoodIn wsX6_faultOf wsX6_isTimeWrong := goodIn_r _ [53, 54, 55, 56, 65, 66, 67, 68, 69, 70, 71, 72, 73, 74] (by decide +kernel) (by decide +kernel)
set_option maxRecDepth 20000 in
theorem gX6_faultOf_X6_isTimeWrong : GoodIn wsX6_faultOf (wsV RX6 86 RX6 yX6_isTimeWrong wsX6_isTimeWrong) := goodIn_app (goodIn_of _ (by decide +kernel)) ggX6_faultOf_X6_isTimeWrong
set_option maxRecDepth 20000 in
theorem ggX6_faultOf_X4_hasRoom : GoodIn wsX6_faultOf wsX4_hasRoom := goodIn_r _ [61, 62, 63, 64, 79, 80, 81, 82, 75, 76, 77, 78] (by decide +kernel) (by decide +kernel)
set_option maxRecDepth 20000 in
theorem gX6_faultOf_X4_hasRoom : GoodIn wsX6_faultOf (wsV RX6 90 RX4 yX4_hasRoom wsX4_hasRoom) := goodIn_app (goodIn_of _ (by decide +kernel)) ggX6_faultOf_X4_hasRoom
theorem dX6_faultOf_0 : decode cX6_faultOf 0 = .ok (.aload_n 0, 1) := by decide +kernel
theorem dX6_faultOf_1 : decode cX6_faultOf 1 = .ok (.getfield 15, 3) := by decide +kernel
theorem dX6_faultOf_4 : decode cX6_faultOf 4 = .ok (.iload_n 1, 1) := by decide +kernel
theorem dX6_faultOf_5 : decode cX6_faultOf 5 = .ok (.isub, 1) := by decide +kernel
theorem dX6_faultOf_6 : decode cX6_faultOf 6 = .ok (.bipush 27, 2) := by decide +kernel
theorem dX6_faultOf_8 : decode cX6_faultOf 8 = .ok (.if_icmp .ge 5, 3) := by decide +kernel
theorem dX6_faultOf_11 : decode cX6_faultOf 11 = .ok (.iconst 1, 1) := by decide +kernel
theorem dX6_faultOf_12 : decode cX6_faultOf 12 = .ok (.ireturn, 1) := by decide +kernel
theorem dX6_faultOf_13 : decode cX6_faultOf 13 = .ok (.aload_n 0, 1) := by decide +kernel
theorem dX6_faultOf_14 : decode cX6_faultOf 14 = .ok (.getfield 9, 3) := by decide +kernel
theorem dX6_faultOf_17 : decode cX6_faultOf 17 = .ok (.iload_n 1, 1) := by decide +kernel
theorem dX6_faultOf_18 : decode cX6_faultOf 18 = .ok (.invokestatic 56, 3) := by decide +kernel
theorem dX6_faultOf_21 : decode cX6_faultOf 21 = .ok (.ifCond .ne 5, 3) := by decide +kernel
theorem dX6_faultOf_24 : decode cX6_faultOf 24 = .ok (.iconst 2, 1) := by decide +kernel
theorem dX6_faultOf_25 : decode cX6_faultOf 25 = .ok (.ireturn, 1) := by decide +kernel
theorem dX6_faultOf_26 : decode cX6_faultOf 26 = .ok (.aload_n 0, 1) := by decide +kernel
theorem dX6_faultOf_27 : decode cX6_faultOf 27 = .ok (.getfield 9, 3) := by decide +kernel
theorem dX6_faultOf_30 : decode cX6_faultOf 30 = .ok (.iload_n 1, 1) := by decide +kernel
theorem dX6_faultOf_31 : decode cX6_faultOf 31 = .ok (.iconst 5, 1) := by decide +kernel
theorem dX6_faultOf_32 : decode cX6_faultOf 32 = .ok (.iadd, 1) := by decide +kernel
theorem dX6_faultOf_33 : decode cX6_faultOf 33 = .ok (.invokevirtual 60, 3) := by decide +kernel
theorem dX6_faultOf_36 : decode cX6_faultOf 36 = .ok (.istore_n 2, 1) := by decide +kernel
theorem dX6_faultOf_37 : decode cX6_faultOf 37 = .ok (.aload_n 0, 1) := by decide +kernel
theorem dX6_faultOf_38 : decode cX6_faultOf 38 = .ok (.getfield 9, 3) := by decide +kernel
theorem dX6_faultOf_41 : decode cX6_faultOf 41 = .ok (.iload_n 1, 1) := by decide +kernel
theorem dX6_faultOf_42 : decode cX6_faultOf 42 = .ok (.iconst 4, 1) := by decide +kernel
theorem dX6_faultOf_43 : decode cX6_faultOf 43 = .ok (.iadd, 1) := by decide +kernel
theorem dX6_faultOf_44 : decode cX6_faultOf 44 = .ok (.invokevirtual 60, 3) := by decide +kernel
theorem dX6_faultOf_47 : decode cX6_faultOf 47 = .ok (.ifCond .ne 9, 3) := by decide +kernel
theorem dX6_faultOf_50 : decode cX6_faultOf 50 = .ok (.iload_n 2, 1) := by decide +kernel
theorem dX6_faultOf_51 : decode cX6_faultOf 51 = .ok (.bipush 7, 2) := by decide +kernel
theorem dX6_faultOf_53 : decode cX6_faultOf 53 = .ok (.if_icmp .le 5, 3) := by decide +kernel
theorem dX6_faultOf_56 : decode cX6_faultOf 56 = .ok (.iconst 3, 1) := by decide +kernel
theorem dX6_faultOf_57 : decode cX6_faultOf 57 = .ok (.ireturn, 1) := by decide +kernel
theorem dX6_faultOf_58 : decode cX6_faultOf 58 = .ok (.aload_n 0, 1) := by decide +kernel
theorem dX6_faultOf_59 : decode cX6_faultOf 59 = .ok (.getfield 9, 3) := by decide +kernel
theorem dX6_faultOf_62 : decode cX6_faultOf 62 = .ok (.iload_n 1, 1) := by decide +kernel
theorem dX6_faultOf_63 : decode cX6_faultOf 63 = .ok (.aload_n 0, 1) := by decide +kernel
theorem dX6_faultOf_64 : decode cX6_faultOf 64 = .ok (.getfield 15, 3) := by decide +kernel
theorem dX6_faultOf_67 : decode cX6_faultOf 67 = .ok (.invokestatic 65, 3) := by decide +kernel
theorem dX6_faultOf_70 : decode cX6_faultOf 70 = .ok (.istore_n 3, 1) := by decide +kernel
theorem dX6_faultOf_71 : decode cX6_faultOf 71 = .ok (.iload_n 3, 1) := by decide +kernel
theorem dX6_faultOf_72 : decode cX6_faultOf 72 = .ok (.iconst (-1), 1) := by decide +kernel
theorem dX6_faultOf_73 : decode cX6_faultOf 73 = .ok (.if_icmp .ne 5, 3) := by decide +kernel
theorem dX6_faultOf_76 : decode cX6_faultOf 76 = .ok (.iconst 1, 1) := by decide +kernel
theorem dX6_faultOf_77 : decode cX6_faultOf 77 = .ok (.ireturn, 1) := by decide +kernel
theorem dX6_faultOf_78 : decode cX6_faultOf 78 = .ok (.aload_n 0, 1) := by decide +kernel
theorem dX6_faultOf_79 : decode cX6_faultOf 79 = .ok (.getfield 9, 3) := by decide +kernel
theorem dX6_faultOf_82 : decode cX6_faultOf 82 = .ok (.iload_n 1, 1) := by decide +kernel
theorem dX6_faultOf_83 : decode cX6_faultOf 83 = .ok (.iload_n 3, 1) := by decide +kernel
theorem dX6_faultOf_84 : decode cX6_faultOf 84 = .ok (.invokestatic 69, 3) := by decide +kernel
theorem dX6_faultOf_87 : decode cX6_faultOf 87 = .ok (.aload_n 0, 1) := by decide +kernel
theorem dX6_faultOf_88 : decode cX6_faultOf 88 = .ok (.iload_n 1, 1) := by decide +kernel
theorem dX6_faultOf_89 : decode cX6_faultOf 89 = .ok (.bipush 22, 2) := by decide +kernel
theorem dX6_faultOf_91 : decode cX6_faultOf 91 = .ok (.iadd, 1) := by decide +kernel
theorem dX6_faultOf_92 : decode cX6_faultOf 92 = .ok (.invokevirtual 72, 3) := by decide +kernel
theorem dX6_faultOf_95 : decode cX6_faultOf 95 = .ok (.if_icmp .eq 5, 3) := by decide +kernel
theorem dX6_faultOf_98 : decode cX6_faultOf 98 = .ok (.iconst 4, 1) := by decide +kernel
theorem dX6_faultOf_99 : decode cX6_faultOf 99 = .ok (.ireturn, 1) := by decide +kernel
theorem dX6_faultOf_100 : decode cX6_faultOf 100 = .ok (.aload_n 0, 1) := by decide +kernel
theorem dX6_faultOf_101 : decode cX6_faultOf 101 = .ok (.iload_n 1, 1) := by decide +kernel
theorem dX6_faultOf_102 : decode cX6_faultOf 102 = .ok (.iload_n 2, 1) := by decide +kernel
theorem dX6_faultOf_103 : decode cX6_faultOf 103 = .ok (.invokevirtual 75, 3) := by decide +kernel
theorem dX6_faultOf_106 : decode cX6_faultOf 106 = .ok (.ifCond .eq 5, 3) := by decide +kernel
theorem dX6_faultOf_109 : decode cX6_faultOf 109 = .ok (.iconst 5, 1) := by decide +kernel
theorem dX6_faultOf_110 : decode cX6_faultOf 110 = .ok (.ireturn, 1) := by decide +kernel
theorem dX6_faultOf_111 : decode cX6_faultOf 111 = .ok (.iload_n 2, 1) := by decide +kernel
theorem dX6_faultOf_112 : decode cX6_faultOf 112 = .ok (.iconst 1, 1) := by decide +kernel
theorem dX6_faultOf_113 : decode cX6_faultOf 113 = .ok (.iand, 1) := by decide +kernel
theorem dX6_faultOf_114 : decode cX6_faultOf 114 = .ok (.ifCond .eq 7, 3) := by decide +kernel
theorem dX6_faultOf_117 : decode cX6_faultOf 117 = .ok (.iconst 1, 1) := by decide +kernel
theorem dX6_faultOf_118 : decode cX6_faultOf 118 = .ok (.goto 4, 3) := by decide +kernel
theorem dX6_faultOf_121 : decode cX6_faultOf 121 = .ok (.iconst 0, 1) := by decide +kernel
theorem dX6_faultOf_122 : decode cX6_faultOf 122 = .ok (.aload_n 0, 1) := by decide +kernel
theorem dX6_faultOf_123 : decode cX6_faultOf 123 = .ok (.getfield 26, 3) := by decide +kernel
theorem dX6_faultOf_126 : decode cX6_faultOf 126 = .ok (.if_icmp .eq 6, 3) := by decide +kernel
theorem dX6_faultOf_129 : decode cX6_faultOf 129 = .ok (.bipush 6, 2) := by decide +kernel
theorem dX6_faultOf_131 : decode cX6_faultOf 131 = .ok (.ireturn, 1) := by decide +kernel
theorem dX6_faultOf_132 : decode cX6_faultOf 132 = .ok (.aload_n 0, 1) := by decide +kernel
theorem dX6_faultOf_133 : decode cX6_faultOf 133 = .ok (.iload_n 1, 1) := by decide +kernel
theorem dX6_faultOf_134 : decode cX6_faultOf 134 = .ok (.invokevirtual 79, 3) := by decide +kernel
theorem dX6_faultOf_137 : decode cX6_faultOf 137 = .ok (.istore 4, 2) := by decide +kernel
theorem dX6_faultOf_139 : decode cX6_faultOf 139 = .ok (.aload_n 0, 1) := by decide +kernel
theorem dX6_faultOf_140 : decode cX6_faultOf 140 = .ok (.aload_n 0, 1) := by decide +kernel
theorem dX6_faultOf_141 : decode cX6_faultOf 141 = .ok (.getfield 9, 3) := by decide +kernel
theorem dX6_faultOf_144 : decode cX6_faultOf 144 = .ok (.iload_n 1, 1) := by decide +kernel
theorem dX6_faultOf_145 : decode cX6_faultOf 145 = .ok (.bipush 6, 2) := by decide +kernel
theorem dX6_faultOf_147 : decode cX6_faultOf 147 = .ok (.iadd, 1) := by decide +kernel
theorem dX6_faultOf_148 : decode cX6_faultOf 148 = .ok (.bipush 8, 2) := by decide +kernel
theorem dX6_faultOf_150 : decode cX6_faultOf 150 = .ok (.invokevirtual 82, 3) := by decide +kernel
theorem dX6_faultOf_153 : decode cX6_faultOf 153 = .ok (.iload 4, 2) := by decide +kernel
theorem dX6_faultOf_155 : decode cX6_faultOf 155 = .ok (.invokevirtual 86, 3) := by decide +kernel
theorem dX6_faultOf_158 : decode cX6_faultOf 158 = .ok (.ifCond .eq 6, 3) := by decide +kernel
theorem dX6_faultOf_161 : decode cX6_faultOf 161 = .ok (.bipush 7, 2) := by decide +kernel
theorem dX6_faultOf_163 : decode cX6_faultOf 163 = .ok (.ireturn, 1) := by decide +kernel
theorem dX6_faultOf_164 : decode cX6_faultOf 164 = .ok (.iload_n 1, 1) := by decide +kernel
theorem dX6_faultOf_165 : decode cX6_faultOf 165 = .ok (.bipush 27, 2) := by decide +kernel
theorem dX6_faultOf_167 : decode cX6_faultOf 167 = .ok (.iadd, 1) := by decide +kernel
theorem dX6_faultOf_168 : decode cX6_faultOf 168 = .ok (.aload_n 0, 1) := by decide +kernel
theorem dX6_faultOf_169 : decode cX6_faultOf 169 = .ok (.getfield 9, 3) := by decide +kernel
theorem dX6_faultOf_172 : decode cX6_faultOf 172 = .ok (.iload_n 1, 1) := by decide +kernel
theorem dX6_faultOf_173 : decode cX6_faultOf 173 = .ok (.bipush 26, 2) := by decide +kernel
theorem dX6_faultOf_175 : decode cX6_faultOf 175 = .ok (.iadd, 1) := by decide +kernel
theorem dX6_faultOf_176 : decode cX6_faultOf 176 = .ok (.invokevirtual 60, 3) := by decide +kernel
theorem dX6_faultOf_179 : decode cX6_faultOf 179 = .ok (.iadd, 1) := by decide +kernel
theorem dX6_faultOf_180 : decode cX6_faultOf 180 = .ok (.istore 5, 2) := by decide +kernel
theorem dX6_faultOf_182 : decode cX6_faultOf 182 = .ok (.aload_n 0, 1) := by decide +kernel
theorem dX6_faultOf_183 : decode cX6_faultOf 183 = .ok (.getfield 19, 3) := by decide +kernel
theorem dX6_faultOf_186 : decode cX6_faultOf 186 = .ok (.iload 4, 2) := by decide +kernel
theorem dX6_faultOf_188 : decode cX6_faultOf 188 = .ok (.iload_n 3, 1) := by decide +kernel
theorem dX6_faultOf_189 : decode cX6_faultOf 189 = .ok (.iload 5, 2) := by decide +kernel
theorem dX6_faultOf_191 : decode cX6_faultOf 191 = .ok (.isub, 1) := by decide +kernel
theorem dX6_faultOf_192 : decode cX6_faultOf 192 = .ok (.invokevirtual 90, 3) := by decide +kernel
theorem dX6_faultOf_195 : decode cX6_faultOf 195 = .ok (.ifCond .eq 7, 3) := by decide +kernel
theorem dX6_faultOf_198 : decode cX6_faultOf 198 = .ok (.iconst 0, 1) := by decide +kernel
theorem dX6_faultOf_199 : decode cX6_faultOf 199 = .ok (.goto 5, 3) := by decide +kernel
theorem dX6_faultOf_202 : decode cX6_faultOf 202 = .ok (.bipush 8, 2) := by decide +kernel
theorem dX6_faultOf_204 : decode cX6_faultOf 204 = .ok (.ireturn, 1) := by decide +kernel
set_option maxRecDepth 20000 in
theorem ggX6_numberAt_X8_lowFirst : GoodIn wsX6_numberAt wsX8_lowFirst := goodIn_r _ [6, 7, 8, 9, 5, 10, 11, 12, 23, 24, 25, 26] (by decide +kernel) (by decide +kernel)
set_option maxRecDepth 20000 in
theorem gX6_numberAt_X8_lowFirst : GoodIn wsX6_numberAt (wsV RX6 82 RX8 yX8_lowFirst wsX8_lowFirst) := goodIn_app (goodIn_of _ (by decide +kernel)) ggX6_numberAt_X8_lowFirst
theorem dX6_numberAt_0 : decode cX6_numberAt 0 = .ok (.aload_n 0, 1) := by decide +kernel
theorem dX6_numberAt_1 : decode cX6_numberAt 1 = .ok (.getfield 9, 3) := by decide +kernel
theorem dX6_numberAt_4 : decode cX6_numberAt 4 = .ok (.iload_n 1, 1) := by decide +kernel
theorem dX6_numberAt_5 : decode cX6_numberAt 5 = .ok (.iconst 4, 1) := by decide +kernel
theorem dX6_numberAt_6 : decode cX6_numberAt 6 = .ok (.invokevirtual 82, 3) := by decide +kernel
theorem dX6_numberAt_9 : decode cX6_numberAt 9 = .ok (.l2i, 1) := by decide +kernel
theorem dX6_numberAt_10 : decode cX6_numberAt 10 = .ok (.ireturn, 1) := by decide +kernel
set_option maxRecDepth 20000 in
theorem ggX6_isOutOfOrder_X6_numberAt : GoodIn wsX6_isOutOfOrder wsX6_numberAt := goodIn_r _ [8, 9, 10, 11, 12, 13, 14, 15, 16, 17, 18, 19, 20, 21, 22, 23, 24, 25, 26, 27, 28, 29, 30, 31, 32, 33, 34] (by decide +kernel) (by decide +kernel)
set_option maxRecDepth 20000 in
theorem gX6_isOutOfOrder_X6_numberAt : GoodIn wsX6_isOutOfOrder (wsV RX6 72 RX6 yX6_numberAt wsX6_numberAt) := goodIn_app (goodIn_of _ (by decide +kernel)) ggX6_isOutOfOrder_X6_numberAt
theorem dX6_isOutOfOrder_0 : decode cX6_isOutOfOrder 0 = .ok (.iload_n 2, 1) := by decide +kernel
theorem dX6_isOutOfOrder_1 : decode cX6_isOutOfOrder 1 = .ok (.iconst 2, 1) := by decide +kernel
theorem dX6_isOutOfOrder_2 : decode cX6_isOutOfOrder 2 = .ok (.iand, 1) := by decide +kernel
theorem dX6_isOutOfOrder_3 : decode cX6_isOutOfOrder 3 = .ok (.ifCond .eq 7, 3) := by decide +kernel
theorem dX6_isOutOfOrder_6 : decode cX6_isOutOfOrder 6 = .ok (.iconst 1, 1) := by decide +kernel
theorem dX6_isOutOfOrder_7 : decode cX6_isOutOfOrder 7 = .ok (.goto 4, 3) := by decide +kernel
theorem dX6_isOutOfOrder_10 : decode cX6_isOutOfOrder 10 = .ok (.iconst 0, 1) := by decide +kernel
theorem dX6_isOutOfOrder_11 : decode cX6_isOutOfOrder 11 = .ok (.istore_n 3, 1) := by decide +kernel
theorem dX6_isOutOfOrder_12 : decode cX6_isOutOfOrder 12 = .ok (.aload_n 0, 1) := by decide +kernel
theorem dX6_isOutOfOrder_13 : decode cX6_isOutOfOrder 13 = .ok (.getfield 30, 3) := by decide +kernel
theorem dX6_isOutOfOrder_16 : decode cX6_isOutOfOrder 16 = .ok (.ifCond .ne 19, 3) := by decide +kernel
theorem dX6_isOutOfOrder_19 : decode cX6_isOutOfOrder 19 = .ok (.iload_n 3, 1) := by decide +kernel
theorem dX6_isOutOfOrder_20 : decode cX6_isOutOfOrder 20 = .ok (.aload_n 0, 1) := by decide +kernel
theorem dX6_isOutOfOrder_21 : decode cX6_isOutOfOrder 21 = .ok (.getfield 23, 3) := by decide +kernel
theorem dX6_isOutOfOrder_24 : decode cX6_isOutOfOrder 24 = .ok (.ifCond .ne 7, 3) := by decide +kernel
theorem dX6_isOutOfOrder_27 : decode cX6_isOutOfOrder 27 = .ok (.iconst 1, 1) := by decide +kernel
theorem dX6_isOutOfOrder_28 : decode cX6_isOutOfOrder 28 = .ok (.goto 4, 3) := by decide +kernel
theorem dX6_isOutOfOrder_31 : decode cX6_isOutOfOrder 31 = .ok (.iconst 0, 1) := by decide +kernel
theorem dX6_isOutOfOrder_32 : decode cX6_isOutOfOrder 32 = .ok (.if_icmp .eq 5, 3) := by decide +kernel
theorem dX6_isOutOfOrder_35 : decode cX6_isOutOfOrder 35 = .ok (.iconst 1, 1) := by decide +kernel
theorem dX6_isOutOfOrder_36 : decode cX6_isOutOfOrder 36 = .ok (.ireturn, 1) := by decide +kernel
theorem dX6_isOutOfOrder_37 : decode cX6_isOutOfOrder 37 = .ok (.aload_n 0, 1) := by decide +kernel
theorem dX6_isOutOfOrder_38 : decode cX6_isOutOfOrder 38 = .ok (.iload_n 1, 1) := by decide +kernel
theorem dX6_isOutOfOrder_39 : decode cX6_isOutOfOrder 39 = .ok (.bipush 18, 2) := by decide +kernel
theorem dX6_isOutOfOrder_41 : decode cX6_isOutOfOrder 41 = .ok (.iadd, 1) := by decide +kernel
theorem dX6_isOutOfOrder_42 : decode cX6_isOutOfOrder 42 = .ok (.invokevirtual 72, 3) := by decide +kernel
theorem dX6_isOutOfOrder_45 : decode cX6_isOutOfOrder 45 = .ok (.aload_n 0, 1) := by decide +kernel
theorem dX6_isOutOfOrder_46 : decode cX6_isOutOfOrder 46 = .ok (.getfield 23, 3) := by decide +kernel
theorem dX6_isOutOfOrder_49 : decode cX6_isOutOfOrder 49 = .ok (.if_icmp .eq 5, 3) := by decide +kernel
theorem dX6_isOutOfOrder_52 : decode cX6_isOutOfOrder 52 = .ok (.iconst 1, 1) := by decide +kernel
theorem dX6_isOutOfOrder_53 : decode cX6_isOutOfOrder 53 = .ok (.ireturn, 1) := by decide +kernel
theorem dX6_isOutOfOrder_54 : decode cX6_isOutOfOrder 54 = .ok (.aload_n 0, 1) := by decide +kernel
theorem dX6_isOutOfOrder_55 : decode cX6_isOutOfOrder 55 = .ok (.getfield 23, 3) := by decide +kernel
theorem dX6_isOutOfOrder_58 : decode cX6_isOutOfOrder 58 = .ok (.ifCond .le 22, 3) := by decide +kernel
theorem dX6_isOutOfOrder_61 : decode cX6_isOutOfOrder 61 = .ok (.aload_n 0, 1) := by decide +kernel
theorem dX6_isOutOfOrder_62 : decode cX6_isOutOfOrder 62 = .ok (.iload_n 1, 1) := by decide +kernel
theorem dX6_isOutOfOrder_63 : decode cX6_isOutOfOrder 63 = .ok (.bipush 14, 2) := by decide +kernel
theorem dX6_isOutOfOrder_65 : decode cX6_isOutOfOrder 65 = .ok (.iadd, 1) := by decide +kernel
theorem dX6_isOutOfOrder_66 : decode cX6_isOutOfOrder 66 = .ok (.invokevirtual 72, 3) := by decide +kernel
theorem dX6_isOutOfOrder_69 : decode cX6_isOutOfOrder 69 = .ok (.aload_n 0, 1) := by decide +kernel
theorem dX6_isOutOfOrder_70 : decode cX6_isOutOfOrder 70 = .ok (.getfield 95, 3) := by decide +kernel
theorem dX6_isOutOfOrder_73 : decode cX6_isOutOfOrder 73 = .ok (.if_icmp .eq 7, 3) := by decide +kernel
theorem dX6_isOutOfOrder_76 : decode cX6_isOutOfOrder 76 = .ok (.iconst 1, 1) := by decide +kernel
theorem dX6_isOutOfOrder_77 : decode cX6_isOutOfOrder 77 = .ok (.goto 4, 3) := by decide +kernel
theorem dX6_isOutOfOrder_80 : decode cX6_isOutOfOrder 80 = .ok (.iconst 0, 1) := by decide +kernel
theorem dX6_isOutOfOrder_81 : decode cX6_isOutOfOrder 81 = .ok (.ireturn, 1) := by decide +kernel
set_option maxRecDepth 20000 in
theorem ggX6_packetsEnding_X8_at : GoodIn wsX6_packetsEnding wsX8_at := goodIn_r _ [6, 7, 8, 19, 20, 21, 22] (by decide +kernel) (by decide +kernel)
set_option maxRecDepth 20000 in
theorem gX6_packetsEnding_X8_at : GoodIn wsX6_packetsEnding (wsV RX6 60 RX8 yX8_at wsX8_at) := goodIn_app (goodIn_of _ (by decide +kernel)) ggX6_packetsEnding_X8_at
theorem dX6_packetsEnding_0 : decode cX6_packetsEnding 0 = .ok (.aload_n 0, 1) := by decide +kernel
theorem dX6_packetsEnding_1 : decode cX6_packetsEnding 1 = .ok (.getfield 9, 3) := by decide +kernel
theorem dX6_packetsEnding_4 : decode cX6_packetsEnding 4 = .ok (.iload_n 1, 1) := by decide +kernel
theorem dX6_packetsEnding_5 : decode cX6_packetsEnding 5 = .ok (.bipush 26, 2) := by decide +kernel
theorem dX6_packetsEnding_7 : decode cX6_packetsEnding 7 = .ok (.iadd, 1) := by decide +kernel
theorem dX6_packetsEnding_8 : decode cX6_packetsEnding 8 = .ok (.invokevirtual 60, 3) := by decide +kernel
theorem dX6_packetsEnding_11 : decode cX6_packetsEnding 11 = .ok (.istore_n 2, 1) := by decide +kernel
theorem dX6_packetsEnding_12 : decode cX6_packetsEnding 12 = .ok (.iconst 0, 1) := by decide +kernel
theorem dX6_packetsEnding_13 : decode cX6_packetsEnding 13 = .ok (.istore_n 3, 1) := by decide +kernel
theorem dX6_packetsEnding_14 : decode cX6_packetsEnding 14 = .ok (.iconst 0, 1) := by decide +kernel
theorem dX6_packetsEnding_15 : decode cX6_packetsEnding 15 = .ok (.istore 4, 2) := by decide +kernel
theorem dX6_packetsEnding_17 : decode cX6_packetsEnding 17 = .ok (.iload 4, 2) := by decide +kernel
theorem dX6_packetsEnding_19 : decode cX6_packetsEnding 19 = .ok (.iload_n 2, 1) := by decide +kernel
theorem dX6_packetsEnding_20 : decode cX6_packetsEnding 20 = .ok (.if_icmp .ge 32, 3) := by decide +kernel
theorem dX6_packetsEnding_23 : decode cX6_packetsEnding 23 = .ok (.aload_n 0, 1) := by decide +kernel
theorem dX6_packetsEnding_24 : decode cX6_packetsEnding 24 = .ok (.getfield 9, 3) := by decide +kernel
theorem dX6_packetsEnding_27 : decode cX6_packetsEnding 27 = .ok (.iload_n 1, 1) := by decide +kernel
theorem dX6_packetsEnding_28 : decode cX6_packetsEnding 28 = .ok (.bipush 27, 2) := by decide +kernel
theorem dX6_packetsEnding_30 : decode cX6_packetsEnding 30 = .ok (.iadd, 1) := by decide +kernel
theorem dX6_packetsEnding_31 : decode cX6_packetsEnding 31 = .ok (.iload 4, 2) := by decide +kernel
