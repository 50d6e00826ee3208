theorem inJ9 : ∀ w ∈ wsJ90, w ∈ lw_tbl := by decide +kernel
theorem inJ0 : ∀ w ∈ wsJ00, w ∈ lw_tbl := by decide +kernel
theorem inJ1 : ∀ w ∈ wsJ10, w ∈ lw_tbl := by decide +kernel
theorem inJ2 : ∀ w ∈ wsJ20, w ∈ lw_tbl := by decide +kernel
theorem inJ10 : ∀ w ∈ wsJ100, w ∈ lw_tbl := by decide +kernel
theorem inJ3 : ∀ w ∈ wsJ30, w ∈ lw_tbl := by decide +kernel
theorem dX0_highestSize_0 : decode cX0_highestSize 0 = .ok (.lconst 1, 1) := by decide +kernel
theorem dX0_highestSize_1 : decode cX0_highestSize 1 = .ok (.bipush 7, 2) := by decide +kernel
theorem dX0_highestSize_3 : decode cX0_highestSize 3 = .ok (.iload_n 0, 1) := by decide +kernel
theorem dX0_highestSize_4 : decode cX0_highestSize 4 = .ok (.imul, 1) := by decide +kernel
theorem dX0_highestSize_5 : decode cX0_highestSize 5 = .ok (.lshl, 1) := by decide +kernel
theorem dX0_highestSize_6 : decode cX0_highestSize 6 = .ok (.ldc2_w 7, 3) := by decide +kernel
theorem dX0_highestSize_9 : decode cX0_highestSize 9 = .ok (.lsub, 1) := by decide +kernel
theorem dX0_highestSize_10 : decode cX0_highestSize 10 = .ok (.lreturn, 1) := by decide +kernel
theorem dX0_differenceShift_0 : decode cX0_differenceShift 0 = .ok (.lconst 1, 1) := by decide +kernel
theorem dX0_differenceShift_1 : decode cX0_differenceShift 1 = .ok (.bipush 7, 2) := by decide +kernel
theorem dX0_differenceShift_3 : decode cX0_differenceShift 3 = .ok (.iload_n 0, 1) := by decide +kernel
theorem dX0_differenceShift_4 : decode cX0_differenceShift 4 = .ok (.imul, 1) := by decide +kernel
theorem dX0_differenceShift_5 : decode cX0_differenceShift 5 = .ok (.iconst 1, 1) := by decide +kernel
theorem dX0_differenceShift_6 : decode cX0_differenceShift 6 = .ok (.isub, 1) := by decide +kernel
theorem dX0_differenceShift_7 : decode cX0_differenceShift 7 = .ok (.lshl, 1) := by decide +kernel
theorem dX0_differenceShift_8 : decode cX0_differenceShift 8 = .ok (.lconst 1, 1) := by decide +kernel
theorem dX0_differenceShift_9 : decode cX0_differenceShift 9 = .ok (.lsub, 1) := by decide +kernel
theorem dX0_differenceShift_10 : decode cX0_differenceShift 10 = .ok (.lreturn, 1) := by decide +kernel
set_option maxRecDepth 20000 in
theorem ggX1_init_X3_init : GoodIn wsX1_init wsX3_init := goodIn_r _ [11, 12, 2, 3] (by decide +kernel) (by decide +kernel)
set_option maxRecDepth 20000 in
theorem gX1_init_X3_init_n23 : GoodIn wsX1_init (wsX3_init) := ggX1_init_X3_init
theorem dX1_init_0 : decode cX1_init 0 = .ok (.aload_n 0, 1) := by decide +kernel
theorem dX1_init_1 : decode cX1_init 1 = .ok (.invokespecial 5, 3) := by decide +kernel
theorem dX1_init_4 : decode cX1_init 4 = .ok (.aload_n 0, 1) := by decide +kernel
theorem dX1_init_5 : decode cX1_init 5 = .ok (.sipush 256, 3) := by decide +kernel
theorem dX1_init_8 : decode cX1_init 8 = .ok (.newarray .int, 2) := by decide +kernel
theorem dX1_init_10 : decode cX1_init 10 = .ok (.putfield 13, 3) := by decide +kernel
theorem dX1_init_13 : decode cX1_init 13 = .ok (.aload_n 0, 1) := by decide +kernel
theorem dX1_init_14 : decode cX1_init 14 = .ok (.iconst 5, 1) := by decide +kernel
theorem dX1_init_15 : decode cX1_init 15 = .ok (.anewarray 17, 3) := by decide +kernel
theorem dX1_init_18 : decode cX1_init 18 = .ok (.putfield 19, 3) := by decide +kernel
theorem dX1_init_21 : decode cX1_init 21 = .ok (.iconst 0, 1) := by decide +kernel
theorem dX1_init_22 : decode cX1_init 22 = .ok (.istore_n 1, 1) := by decide +kernel
theorem dX1_init_23 : decode cX1_init 23 = .ok (.iload_n 1, 1) := by decide +kernel
theorem dX1_init_24 : decode cX1_init 24 = .ok (.aload_n 0, 1) := by decide +kernel
theorem dX1_init_25 : decode cX1_init 25 = .ok (.getfield 19, 3) := by decide +kernel
theorem dX1_init_28 : decode cX1_init 28 = .ok (.arraylength, 1) := by decide +kernel
theorem dX1_init_29 : decode cX1_init 29 = .ok (.if_icmp .ge 22, 3) := by decide +kernel
theorem dX1_init_32 : decode cX1_init 32 = .ok (.aload_n 0, 1) := by decide +kernel
theorem dX1_init_33 : decode cX1_init 33 = .ok (.getfield 19, 3) := by decide +kernel
theorem dX1_init_36 : decode cX1_init 36 = .ok (.iload_n 1, 1) := by decide +kernel
theorem dX1_init_37 : decode cX1_init 37 = .ok (.new 17, 3) := by decide +kernel
theorem dX1_init_40 : decode cX1_init 40 = .ok (.dup, 1) := by decide +kernel
theorem dX1_init_41 : decode cX1_init 41 = .ok (.invokespecial 23, 3) := by decide +kernel
theorem dX1_init_44 : decode cX1_init 44 = .ok (.aastore, 1) := by decide +kernel
theorem dX1_init_45 : decode cX1_init 45 = .ok (.iinc 1 1, 3) := by decide +kernel
theorem dX1_init_48 : decode cX1_init 48 = .ok (.goto (-25), 3) := by decide +kernel
theorem dX1_init_51 : decode cX1_init 51 = .ok (.return_, 1) := by decide +kernel
set_option maxRecDepth 20000 in
theorem ggX1_read_X1_openLevel : GoodIn wsX1_read wsX1_openLevel := goodIn_r _ [17, 10, 11, 18, 19, 12, 20, 21, 22, 23, 7, 5, 9, 24, 25, 26, 16, 27, 3, 4, 211, 212, 213, 214, 215, 216, 217, 218, 219, 220, 221, 222, 223, 224, 225, 226, 227, 228] (by decide +kernel) (by decide +kernel)
set_option maxRecDepth 20000 in
theorem gX1_read_X1_openLevel : GoodIn wsX1_read (wsV RX1 57 RX1 yX1_openLevel wsX1_openLevel) := goodIn_app (goodIn_of _ (by decide +kernel)) ggX1_read_X1_openLevel
set_option maxRecDepth 20000 in
theorem ggX1_read_X1_readElement : GoodIn wsX1_read wsX1_readElement := goodIn_r _ [31, 12, 21, 22, 18, 20, 1, 23, 7, 32, 33, 34, 16, 35, 36, 37, 38, 39, 40, 41, 42, 43, 44, 45, 24, 25, 26, 27, 3, 4, 46, 47, 48, 49, 50, 51, 52, 53, 54, 19, 10, 55, 56, 57, 58, 59, 60, 61, 62, 63, 64, 65, 66, 67, 68, 69, 70, 71, 72, 73, 74, 75, 76, 77, 78, 79, 80, 81, 82, 83, 84, 85, 86, 87, 88, 89, 90, 91, 92, 13, 14, 15, 17, 11, 5, 9, 93, 94, 95, 96, 97, 8, 98, 99, 100, 101, 102, 103, 104, 105, 106, 107, 108, 109, 110, 111, 112, 113, 114, 115, 116, 117, 118, 119, 120, 121, 122, 123, 124, 125, 126, 127, 128, 129, 130, 131, 132, 133, 134, 135, 136, 137, 138, 139, 140, 141, 142, 143, 144, 145, 146, 147, 148, 149, 150, 151, 152, 153, 154, 155, 156, 2, 157, 6, 158, 159, 160, 161, 162, 163, 164, 165, 166, 167, 168, 169, 170, 171, 172, 173, 174, 175, 176, 177, 178, 179, 180, 181, 182, 183, 184, 185, 186, 187, 188, 189, 190, 191, 192, 193, 194, 195, 196, 197, 198, 199, 200, 201, 202, 203, 204, 205, 206, 207, 208, 209, 210, 224, 225, 226, 227, 228, 211, 212, 213, 214, 215, 216, 217, 218, 219, 220, 221, 222, 223, 229, 230, 231, 232, 233, 234, 235, 236] (by decide +kernel) (by decide +kernel)
set_option maxRecDepth 20000 in
theorem gX1_read_X1_readElement : GoodIn wsX1_read (wsV RX1 64 RX1 yX1_readElement wsX1_readElement) := goodIn_app (goodIn_of _ (by decide +kernel)) ggX1_read_X1_readElement
set_option maxRecDepth 20000 in
theorem ggX1_read_X1_closeLevel : GoodIn wsX1_read wsX1_closeLevel := goodIn_r _ [54, 18, 20, 19, 10, 55, 56, 16, 57, 58, 59, 60, 61, 62, 7, 24, 25, 26, 27, 3, 4, 224, 225, 226, 227, 228, 211, 212, 213, 214, 215, 216, 217, 218, 219, 220, 221, 222, 223] (by decide +kernel) (by decide +kernel)
set_option maxRecDepth 20000 in
theorem gX1_read_X1_closeLevel : GoodIn wsX1_read (wsV RX1 68 RX1 yX1_closeLevel wsX1_closeLevel) := goodIn_app (goodIn_of _ (by decide +kernel)) ggX1_read_X1_closeLevel
theorem dX1_read_0 : decode cX1_read 0 = .ok (.aload_n 0, 1) := by decide +kernel
theorem dX1_read_1 : decode cX1_read 1 = .ok (.aload_n 1, 1) := by decide +kernel
theorem dX1_read_2 : decode cX1_read 2 = .ok (.putfield 24, 3) := by decide +kernel
theorem dX1_read_5 : decode cX1_read 5 = .ok (.aload_n 0, 1) := by decide +kernel
theorem dX1_read_6 : decode cX1_read 6 = .ok (.aload_n 3, 1) := by decide +kernel
theorem dX1_read_7 : decode cX1_read 7 = .ok (.putfield 28, 3) := by decide +kernel
theorem dX1_read_10 : decode cX1_read 10 = .ok (.aload_n 0, 1) := by decide +kernel
theorem dX1_read_11 : decode cX1_read 11 = .ok (.iconst 0, 1) := by decide +kernel
theorem dX1_read_12 : decode cX1_read 12 = .ok (.putfield 32, 3) := by decide +kernel
theorem dX1_read_15 : decode cX1_read 15 = .ok (.aload_n 0, 1) := by decide +kernel
theorem dX1_read_16 : decode cX1_read 16 = .ok (.iconst (-1), 1) := by decide +kernel
theorem dX1_read_17 : decode cX1_read 17 = .ok (.putfield 36, 3) := by decide +kernel
theorem dX1_read_20 : decode cX1_read 20 = .ok (.aload_n 0, 1) := by decide +kernel
theorem dX1_read_21 : decode cX1_read 21 = .ok (.iconst 0, 1) := by decide +kernel
theorem dX1_read_22 : decode cX1_read 22 = .ok (.putfield 39, 3) := by decide +kernel
theorem dX1_read_25 : decode cX1_read 25 = .ok (.aload_n 0, 1) := by decide +kernel
theorem dX1_read_26 : decode cX1_read 26 = .ok (.iconst 0, 1) := by decide +kernel
theorem dX1_read_27 : decode cX1_read 27 = .ok (.putfield 42, 3) := by decide +kernel
theorem dX1_read_30 : decode cX1_read 30 = .ok (.aload_n 0, 1) := by decide +kernel
theorem dX1_read_31 : decode cX1_read 31 = .ok (.ldc2_w 45, 3) := by decide +kernel
theorem dX1_read_34 : decode cX1_read 34 = .ok (.putfield 47, 3) := by decide +kernel
theorem dX1_read_37 : decode cX1_read 37 = .ok (.aload_n 0, 1) := by decide +kernel
theorem dX1_read_38 : decode cX1_read 38 = .ok (.ldc2_w 45, 3) := by decide +kernel
theorem dX1_read_41 : decode cX1_read 41 = .ok (.putfield 51, 3) := by decide +kernel
theorem dX1_read_44 : decode cX1_read 44 = .ok (.aload_n 0, 1) := by decide +kernel
theorem dX1_read_45 : decode cX1_read 45 = .ok (.iconst 0, 1) := by decide +kernel
theorem dX1_read_46 : decode cX1_read 46 = .ok (.putfield 54, 3) := by decide +kernel
theorem dX1_read_49 : decode cX1_read 49 = .ok (.aload_n 0, 1) := by decide +kernel
theorem dX1_read_50 : decode cX1_read 50 = .ok (.iconst 0, 1) := by decide +kernel
theorem dX1_read_51 : decode cX1_read 51 = .ok (.iload_n 2, 1) := by decide +kernel
theorem dX1_read_52 : decode cX1_read 52 = .ok (.iconst 0, 1) := by decide +kernel
theorem dX1_read_53 : decode cX1_read 53 = .ok (.iload_n 2, 1) := by decide +kernel
theorem dX1_read_54 : decode cX1_read 54 = .ok (.invokevirtual 57, 3) := by decide +kernel
theorem dX1_read_57 : decode cX1_read 57 = .ok (.istore 4, 2) := by decide +kernel
theorem dX1_read_59 : decode cX1_read 59 = .ok (.iconst 0, 1) := by decide +kernel
theorem dX1_read_60 : decode cX1_read 60 = .ok (.istore 5, 2) := by decide +kernel
theorem dX1_read_62 : decode cX1_read 62 = .ok (.iload 5, 2) := by decide +kernel
theorem dX1_read_64 : decode cX1_read 64 = .ok (.sipush 12000, 3) := by decide +kernel
theorem dX1_read_67 : decode cX1_read 67 = .ok (.if_icmp .ge 66, 3) := by decide +kernel
theorem dX1_read_70 : decode cX1_read 70 = .ok (.iload 4, 2) := by decide +kernel
theorem dX1_read_72 : decode cX1_read 72 = .ok (.iconst (-1), 1) := by decide +kernel
theorem dX1_read_73 : decode cX1_read 73 = .ok (.if_icmp .eq 60, 3) := by decide +kernel
theorem dX1_read_76 : decode cX1_read 76 = .ok (.aload_n 0, 1) := by decide +kernel
theorem dX1_read_77 : decode cX1_read 77 = .ok (.getfield 54, 3) := by decide +kernel
theorem dX1_read_80 : decode cX1_read 80 = .ok (.ifCond .le 53, 3) := by decide +kernel
theorem dX1_read_83 : decode cX1_read 83 = .ok (.aload_n 0, 1) := by decide +kernel
theorem dX1_read_84 : decode cX1_read 84 = .ok (.getfield 19, 3) := by decide +kernel
theorem dX1_read_87 : decode cX1_read 87 = .ok (.aload_n 0, 1) := by decide +kernel
theorem dX1_read_88 : decode cX1_read 88 = .ok (.getfield 54, 3) := by decide +kernel
theorem dX1_read_91 : decode cX1_read 91 = .ok (.iconst 1, 1) := by decide +kernel
theorem dX1_read_92 : decode cX1_read 92 = .ok (.isub, 1) := by decide +kernel
theorem dX1_read_93 : decode cX1_read 93 = .ok (.aaload, 1) := by decide +kernel
theorem dX1_read_94 : decode cX1_read 94 = .ok (.astore 6, 2) := by decide +kernel
theorem dX1_read_96 : decode cX1_read 96 = .ok (.iload 4, 2) := by decide +kernel
theorem dX1_read_98 : decode cX1_read 98 = .ok (.aload 6, 2) := by decide +kernel
theorem dX1_read_100 : decode cX1_read 100 = .ok (.getfield 61, 3) := by decide +kernel
theorem dX1_read_103 : decode cX1_read 103 = .ok (.if_icmp .ge 14, 3) := by decide +kernel
theorem dX1_read_106 : decode cX1_read 106 = .ok (.aload_n 0, 1) := by decide +kernel
theorem dX1_read_107 : decode cX1_read 107 = .ok (.aload 6, 2) := by decide +kernel
theorem dX1_read_109 : decode cX1_read 109 = .ok (.iload 4, 2) := by decide +kernel
theorem dX1_read_111 : decode cX1_read 111 = .ok (.invokevirtual 64, 3) := by decide +kernel
theorem dX1_read_114 : decode cX1_read 114 = .ok (.goto 11, 3) := by decide +kernel
theorem dX1_read_117 : decode cX1_read 117 = .ok (.aload_n 0, 1) := by decide +kernel
theorem dX1_read_118 : decode cX1_read 118 = .ok (.aload 6, 2) := by decide +kernel
theorem dX1_read_120 : decode cX1_read 120 = .ok (.iload 4, 2) := by decide +kernel
theorem dX1_read_122 : decode cX1_read 122 = .ok (.invokevirtual 68, 3) := by decide +kernel
theorem dX1_read_125 : decode cX1_read 125 = .ok (.istore 4, 2) := by decide +kernel
theorem dX1_read_127 : decode cX1_read 127 = .ok (.iinc 5 1, 3) := by decide +kernel
theorem dX1_read_130 : decode cX1_read 130 = .ok (.goto (-68), 3) := by decide +kernel
theorem dX1_read_133 : decode cX1_read 133 = .ok (.return_, 1) := by decide +kernel
theorem dX1_fail_0 : decode cX1_fail 0 = .ok (.aload_n 0, 1) := by decide +kernel
theorem dX1_fail_1 : decode cX1_fail 1 = .ok (.iload_n 1, 1) := by decide +kernel
theorem dX1_fail_2 : decode cX1_fail 2 = .ok (.putfield 32, 3) := by decide +kernel
theorem dX1_fail_5 : decode cX1_fail 5 = .ok (.aload_n 0, 1) := by decide +kernel
theorem dX1_fail_6 : decode cX1_fail 6 = .ok (.iload_n 2, 1) := by decide +kernel
theorem dX1_fail_7 : decode cX1_fail 7 = .ok (.putfield 36, 3) := by decide +kernel
theorem dX1_fail_10 : decode cX1_fail 10 = .ok (.iconst (-1), 1) := by decide +kernel
theorem dX1_fail_11 : decode cX1_fail 11 = .ok (.ireturn, 1) := by decide +kernel
set_option maxRecDepth 20000 in
theorem ggX1_openLevel_X1_fail : GoodIn wsX1_openLevel wsX1_fail := goodIn_r _ [17, 18, 19, 20, 21, 22, 23, 24, 25, 26, 27, 28, 29, 30, 31, 32] (by decide +kernel) (by decide +kernel)
set_option maxRecDepth 20000 in
theorem gX1_openLevel_X1_fail : GoodIn wsX1_openLevel (wsV RX1 71 RX1 yX1_fail wsX1_fail) := goodIn_app (goodIn_of _ (by decide +kernel)) ggX1_openLevel_X1_fail
theorem dX1_openLevel_0 : decode cX1_openLevel 0 = .ok (.aload_n 0, 1) := by decide +kernel
theorem dX1_openLevel_1 : decode cX1_openLevel 1 = .ok (.getfield 54, 3) := by decide +kernel
theorem dX1_openLevel_4 : decode cX1_openLevel 4 = .ok (.aload_n 0, 1) := by decide +kernel
theorem dX1_openLevel_5 : decode cX1_openLevel 5 = .ok (.getfield 19, 3) := by decide +kernel
theorem dX1_openLevel_8 : decode cX1_openLevel 8 = .ok (.arraylength, 1) := by decide +kernel
theorem dX1_openLevel_9 : decode cX1_openLevel 9 = .ok (.if_icmp .lt 10, 3) := by decide +kernel
theorem dX1_openLevel_12 : decode cX1_openLevel 12 = .ok (.aload_n 0, 1) := by decide +kernel
theorem dX1_openLevel_13 : decode cX1_openLevel 13 = .ok (.iconst 2, 1) := by decide +kernel
theorem dX1_openLevel_14 : decode cX1_openLevel 14 = .ok (.iload_n 2, 1) := by decide +kernel
theorem dX1_openLevel_15 : decode cX1_openLevel 15 = .ok (.invokevirtual 71, 3) := by decide +kernel
theorem dX1_openLevel_18 : decode cX1_openLevel 18 = .ok (.ireturn, 1) := by decide +kernel
theorem dX1_openLevel_19 : decode cX1_openLevel 19 = .ok (.aload_n 0, 1) := by decide +kernel
theorem dX1_openLevel_20 : decode cX1_openLevel 20 = .ok (.getfield 19, 3) := by decide +kernel
theorem dX1_openLevel_23 : decode cX1_openLevel 23 = .ok (.aload_n 0, 1) := by decide +kernel
theorem dX1_openLevel_24 : decode cX1_openLevel 24 = .ok (.getfield 54, 3) := by decide +kernel
theorem dX1_openLevel_27 : decode cX1_openLevel 27 = .ok (.aaload, 1) := by decide +kernel
theorem dX1_openLevel_28 : decode cX1_openLevel 28 = .ok (.astore 5, 2) := by decide +kernel
theorem dX1_openLevel_30 : decode cX1_openLevel 30 = .ok (.aload 5, 2) := by decide +kernel
theorem dX1_openLevel_32 : decode cX1_openLevel 32 = .ok (.iload_n 1, 1) := by decide +kernel
theorem dX1_openLevel_33 : decode cX1_openLevel 33 = .ok (.putfield 75, 3) := by decide +kernel
theorem dX1_openLevel_36 : decode cX1_openLevel 36 = .ok (.aload 5, 2) := by decide +kernel
theorem dX1_openLevel_38 : decode cX1_openLevel 38 = .ok (.iload_n 2, 1) := by decide +kernel
theorem dX1_openLevel_39 : decode cX1_openLevel 39 = .ok (.putfield 78, 3) := by decide +kernel
theorem dX1_openLevel_42 : decode cX1_openLevel 42 = .ok (.aload 5, 2) := by decide +kernel
theorem dX1_openLevel_44 : decode cX1_openLevel 44 = .ok (.iload 4, 2) := by decide +kernel
theorem dX1_openLevel_46 : decode cX1_openLevel 46 = .ok (.putfield 61, 3) := by decide +kernel
theorem dX1_openLevel_49 : decode cX1_openLevel 49 = .ok (.aload 5, 2) := by decide +kernel
theorem dX1_openLevel_51 : decode cX1_openLevel 51 = .ok (.iconst 0, 1) := by decide +kernel
theorem dX1_openLevel_52 : decode cX1_openLevel 52 = .ok (.putfield 81, 3) := by decide +kernel
theorem dX1_openLevel_55 : decode cX1_openLevel 55 = .ok (.aload 5, 2) := by decide +kernel
theorem dX1_openLevel_57 : decode cX1_openLevel 57 = .ok (.iconst 0, 1) := by decide +kernel
theorem dX1_openLevel_58 : decode cX1_openLevel 58 = .ok (.putfield 84, 3) := by decide +kernel
theorem dX1_openLevel_61 : decode cX1_openLevel 61 = .ok (.aload_n 0, 1) := by decide +kernel
theorem dX1_openLevel_62 : decode cX1_openLevel 62 = .ok (.dup, 1) := by decide +kernel
theorem dX1_openLevel_63 : decode cX1_openLevel 63 = .ok (.getfield 54, 3) := by decide +kernel
theorem dX1_openLevel_66 : decode cX1_openLevel 66 = .ok (.iconst 1, 1) := by decide +kernel
theorem dX1_openLevel_67 : decode cX1_openLevel 67 = .ok (.iadd, 1) := by decide +kernel
theorem dX1_openLevel_68 : decode cX1_openLevel 68 = .ok (.putfield 54, 3) := by decide +kernel
theorem dX1_openLevel_71 : decode cX1_openLevel 71 = .ok (.iload_n 1, 1) := by decide +kernel
theorem dX1_openLevel_72 : decode cX1_openLevel 72 = .ok (.ldc 88, 2) := by decide +kernel
theorem dX1_openLevel_74 : decode cX1_openLevel 74 = .ok (.if_icmp .ne 41, 3) := by decide +kernel
theorem dX1_openLevel_77 : decode cX1_openLevel 77 = .ok (.aload 5, 2) := by decide +kernel
theorem dX1_openLevel_79 : decode cX1_openLevel 79 = .ok (.aload_n 0, 1) := by decide +kernel
theorem dX1_openLevel_80 : decode cX1_openLevel 80 = .ok (.getfield 89, 3) := by decide +kernel
theorem dX1_openLevel_83 : decode cX1_openLevel 83 = .ok (.ldc2_w 45, 3) := by decide +kernel
theorem dX1_openLevel_86 : decode cX1_openLevel 86 = .ok (.lcmp, 1) := by decide +kernel
theorem dX1_openLevel_87 : decode cX1_openLevel 87 = .ok (.ifCond .ne 7, 3) := by decide +kernel
theorem dX1_openLevel_90 : decode cX1_openLevel 90 = .ok (.iconst 1, 1) := by decide +kernel
theorem dX1_openLevel_91 : decode cX1_openLevel 91 = .ok (.goto 4, 3) := by decide +kernel
theorem dX1_openLevel_94 : decode cX1_openLevel 94 = .ok (.iconst 0, 1) := by decide +kernel
theorem dX1_openLevel_95 : decode cX1_openLevel 95 = .ok (.putfield 84, 3) := by decide +kernel
theorem dX1_openLevel_98 : decode cX1_openLevel 98 = .ok (.aload_n 0, 1) := by decide +kernel
theorem dX1_openLevel_99 : decode cX1_openLevel 99 = .ok (.dup, 1) := by decide +kernel
theorem dX1_openLevel_100 : decode cX1_openLevel 100 = .ok (.getfield 39, 3) := by decide +kernel
theorem dX1_openLevel_103 : decode cX1_openLevel 103 = .ok (.iconst 1, 1) := by decide +kernel
theorem dX1_openLevel_104 : decode cX1_openLevel 104 = .ok (.iadd, 1) := by decide +kernel
theorem dX1_openLevel_105 : decode cX1_openLevel 105 = .ok (.putfield 39, 3) := by decide +kernel
theorem dX1_openLevel_108 : decode cX1_openLevel 108 = .ok (.aload_n 0, 1) := by decide +kernel
theorem dX1_openLevel_109 : decode cX1_openLevel 109 = .ok (.ldc2_w 45, 3) := by decide +kernel
theorem dX1_openLevel_112 : decode cX1_openLevel 112 = .ok (.putfield 51, 3) := by decide +kernel
theorem dX1_openLevel_115 : decode cX1_openLevel 115 = .ok (.iload_n 3, 1) := by decide +kernel
theorem dX1_openLevel_116 : decode cX1_openLevel 116 = .ok (.ireturn, 1) := by decide +kernel
set_option maxRecDepth 20000 in
theorem ggX1_closeLevel_X1_lacksSome : GoodIn wsX1_closeLevel wsX1_lacksSome := goodIn_r _ [8, 9, 10, 11, 7, 12, 13, 14] (by decide +kernel) (by decide +kernel)
set_option maxRecDepth 20000 in
theorem gX1_closeLevel_X1_lacksSome : GoodIn wsX1_closeLevel (va_wsS RX1 92 yX1_lacksSome wsX1_lacksSome) := goodIn_app (goodIn_of _ (by decide +kernel)) ggX1_closeLevel_X1_lacksSome
set_option maxRecDepth 20000 in
theorem ggX1_closeLevel_X1_fail : GoodIn wsX1_closeLevel wsX1_fail := goodIn_r _ [18, 19, 20, 26, 27, 28, 29, 30, 31, 32, 33, 34, 35, 36, 37, 38] (by decide +kernel) (by decide +kernel)
set_option maxRecDepth 20000 in
theorem gX1_closeLevel_X1_fail : GoodIn wsX1_closeLevel (wsV RX1 71 RX1 yX1_fail wsX1_fail) := goodIn_app (goodIn_of _ (by decide +kernel)) ggX1_closeLevel_X1_fail
theorem dX1_closeLevel_0 : decode cX1_closeLevel 0 = .ok (.aload_n 1, 1) := by decide +kernel
theorem dX1_closeLevel_1 : decode cX1_closeLevel 1 = .ok (.getfield 75, 3) := by decide +kernel
theorem dX1_closeLevel_4 : decode cX1_closeLevel 4 = .ok (.aload_n 1, 1) := by decide +kernel
theorem dX1_closeLevel_5 : decode cX1_closeLevel 5 = .ok (.getfield 81, 3) := by decide +kernel
theorem dX1_closeLevel_8 : decode cX1_closeLevel 8 = .ok (.invokestatic 92, 3) := by decide +kernel
theorem dX1_closeLevel_11 : decode cX1_closeLevel 11 = .ok (.ifCond .eq 14, 3) := by decide +kernel
theorem dX1_closeLevel_14 : decode cX1_closeLevel 14 = .ok (.aload_n 0, 1) := by decide +kernel
theorem dX1_closeLevel_15 : decode cX1_closeLevel 15 = .ok (.bipush 7, 2) := by decide +kernel
theorem dX1_closeLevel_17 : decode cX1_closeLevel 17 = .ok (.aload_n 1, 1) := by decide +kernel
theorem dX1_closeLevel_18 : decode cX1_closeLevel 18 = .ok (.getfield 78, 3) := by decide +kernel
theorem dX1_closeLevel_21 : decode cX1_closeLevel 21 = .ok (.invokevirtual 71, 3) := by decide +kernel
theorem dX1_closeLevel_24 : decode cX1_closeLevel 24 = .ok (.ireturn, 1) := by decide +kernel
theorem dX1_closeLevel_25 : decode cX1_closeLevel 25 = .ok (.aload_n 0, 1) := by decide +kernel
theorem dX1_closeLevel_26 : decode cX1_closeLevel 26 = .ok (.dup, 1) := by decide +kernel
theorem dX1_closeLevel_27 : decode cX1_closeLevel 27 = .ok (.getfield 54, 3) := by decide +kernel
theorem dX1_closeLevel_30 : decode cX1_closeLevel 30 = .ok (.iconst 1, 1) := by decide +kernel
theorem dX1_closeLevel_31 : decode cX1_closeLevel 31 = .ok (.isub, 1) := by decide +kernel
theorem dX1_closeLevel_32 : decode cX1_closeLevel 32 = .ok (.putfield 54, 3) := by decide +kernel
theorem dX1_closeLevel_35 : decode cX1_closeLevel 35 = .ok (.iload_n 2, 1) := by decide +kernel
theorem dX1_closeLevel_36 : decode cX1_closeLevel 36 = .ok (.ireturn, 1) := by decide +kernel
set_option maxRecDepth 20000 in
theorem ggX1_readElement_X1_readId : GoodIn wsX1_readElement wsX1_readId := goodIn_r _ [13, 6, 14, 15, 16, 17, 18, 19, 20, 21, 22, 12, 23, 24, 25, 26, 27, 28, 29, 30, 31, 32, 33, 34, 212, 213, 214, 215, 216, 217, 218, 219, 220, 221, 222, 223, 224, 225, 226, 227, 228] (by decide +kernel) (by decide +kernel)
set_option maxRecDepth 20000 in
theorem gX1_readElement_X1_readId : GoodIn wsX1_readElement (wsV RX1 96 RX1 yX1_readId wsX1_readId) := goodIn_app (goodIn_of _ (by decide +kernel)) ggX1_readElement_X1_readId
set_option maxRecDepth 20000 in
theorem ggX1_readElement_X1_closeLevel : GoodIn wsX1_readElement wsX1_closeLevel := goodIn_r _ [38, 4, 5, 39, 40, 41, 42, 12, 43, 44, 45, 46, 47, 48, 8, 24, 25, 26, 27, 28, 29, 207, 208, 209, 210, 211, 212, 213, 214, 215, 216, 217, 218, 219, 220, 221, 222, 223, 224] (by decide +kernel) (by decide +kernel)
set_option maxRecDepth 20000 in
theorem gX1_readElement_X1_closeLevel : GoodIn wsX1_readElement (wsV RX1 68 RX1 yX1_closeLevel wsX1_closeLevel) := goodIn_app (goodIn_of _ (by decide +kernel)) ggX1_readElement_X1_closeLevel
set_option maxRecDepth 20000 in
theorem ggX1_readElement_X1_rowOf : GoodIn wsX1_readElement wsX1_rowOf := goodIn_r _ [51, 8, 45, 46, 12, 47, 48] (by decide +kernel) (by decide +kernel)
set_option maxRecDepth 20000 in
theorem gX1_readElement_X1_rowOf : GoodIn wsX1_readElement (va_wsS RX1 99 yX1_rowOf wsX1_rowOf) := goodIn_app (goodIn_of _ (by decide +kernel)) ggX1_readElement_X1_rowOf
set_option maxRecDepth 20000 in
theorem ggX1_readElement_X1_mayStand : GoodIn wsX1_readElement wsX1_mayStand := goodIn_r _ [54, 55, 56, 3, 57, 58, 59, 12, 60, 49, 50, 51, 8, 45, 46, 47, 48] (by decide +kernel) (by decide +kernel)
set_option maxRecDepth 20000 in
theorem gX1_readElement_X1_mayStand : GoodIn wsX1_readElement (va_wsS RX1 102 yX1_mayStand wsX1_mayStand) := goodIn_app (goodIn_of _ (by decide +kernel)) ggX1_readElement_X1_mayStand
set_option maxRecDepth 20000 in
theorem ggX1_readElement_X1_fail : GoodIn wsX1_readElement wsX1_fail := goodIn_r _ [27, 28, 29, 212, 213, 214, 215, 216, 217, 218, 219, 220, 221, 222, 223, 224] (by decide +kernel) (by decide +kernel)
set_option maxRecDepth 20000 in
theorem gX1_readElement_X1_fail : GoodIn wsX1_readElement (wsV RX1 71 RX1 yX1_fail wsX1_fail) := goodIn_app (goodIn_of _ (by decide +kernel)) ggX1_readElement_X1_fail
set_option maxRecDepth 20000 in
theorem ggX1_readElement_X8_at : GoodIn wsX1_readElement wsX8_at := goodIn_r _ [18, 19, 20, 225, 226, 227, 228] (by decide +kernel) (by decide +kernel)
set_option maxRecDepth 20000 in
theorem gX1_readElement_X8_at : GoodIn wsX1_readElement (wsV RX1 105 RX8 yX8_at wsX8_at) := goodIn_app (goodIn_of _ (by decide +kernel)) ggX1_readElement_X8_at
set_option maxRecDepth 20000 in
theorem ggX1_readElement_X1_markedWidth : GoodIn wsX1_readElement wsX1_markedWidth := goodIn_r _ [23] (by decide +kernel) (by decide +kernel)
set_option maxRecDepth 20000 in
theorem gX1_readElement_X1_markedWidth : GoodIn wsX1_readElement (va_wsS RX1 111 yX1_markedWidth wsX1_markedWidth) := goodIn_app (goodIn_of _ (by decide +kernel)) ggX1_readElement_X1_markedWidth
set_option maxRecDepth 20000 in
theorem ggX1_readElement_X1_readSize : GoodIn wsX1_readElement wsX1_readSize := goodIn_r _ [64, 7, 55, 3, 65, 8, 66, 67, 68, 12, 69, 6, 14, 15, 16, 17, 18, 19, 20, 21, 22, 23, 24, 25, 26, 27, 28, 29, 70, 71, 72, 73, 74, 75, 76, 77, 78, 212, 213, 214, 215, 216, 217, 218, 219, 220, 221, 222, 223, 224, 225, 226, 227, 228] (by decide +kernel) (by decide +kernel)
set_option maxRecDepth 20000 in
theorem gX1_readElement_X1_readSize : GoodIn wsX1_readElement (wsV RX1 114 RX1 yX1_readSize wsX1_readSize) := goodIn_app (goodIn_of _ (by decide +kernel)) ggX1_readElement_X1_readSize
set_option maxRecDepth 20000 in
theorem ggX1_readElement_X1_column : GoodIn wsX1_readElement wsX1_column := goodIn_r _ [47, 48, 8] (by decide +kernel) (by decide +kernel)
set_option maxRecDepth 20000 in
theorem gX1_readElement_X1_column : GoodIn wsX1_readElement (va_wsS RX1 117 yX1_column wsX1_column) := goodIn_app (goodIn_of _ (by decide +kernel)) ggX1_readElement_X1_column
set_option maxRecDepth 20000 in
theorem ggX1_readElement_X1_openLevel : GoodIn wsX1_readElement wsX1_openLevel := goodIn_r _ [82, 40, 83, 4, 39, 1, 5, 2, 3, 7, 8, 84, 85, 24, 25, 26, 12, 27, 28, 29, 212, 213, 214, 215, 216, 217, 218, 219, 220, 221, 222, 223, 224, 207, 208, 209, 210, 211] (by decide +kernel) (by decide +kernel)
set_option maxRecDepth 20000 in
theorem gX1_readElement_X1_openLevel : GoodIn wsX1_readElement (wsV RX1 57 RX1 yX1_openLevel wsX1_openLevel) := goodIn_app (goodIn_of _ (by decide +kernel)) ggX1_readElement_X1_openLevel
set_option maxRecDepth 20000 in
theorem ggX1_readElement_X1_readUint : GoodIn wsX1_readElement wsX1_readUint := goodIn_r _ [89, 6, 90, 91, 92, 85, 24, 25, 26, 12, 27, 28, 29, 30, 31, 32, 17, 33, 34, 15, 16, 18, 19, 20, 45, 46, 47, 48, 8, 212, 213, 214, 215, 216, 217, 218, 219, 220, 221, 222, 223, 224, 225, 226, 227, 228] (by decide +kernel) (by decide +kernel)
set_option maxRecDepth 20000 in
theorem gX1_readElement_X1_readUint : GoodIn wsX1_readElement (wsV RX1 121 RX1 yX1_readUint wsX1_readUint) := goodIn_app (goodIn_of _ (by decide +kernel)) ggX1_readElement_X1_readUint
set_option maxRecDepth 20000 in
theorem ggX1_readElement_X1_isDocumentName : GoodIn wsX1_readElement wsX1_isDocumentName := goodIn_r _ [96, 6, 97, 98, 99, 100, 101, 102, 103, 104, 105, 106, 107, 108, 14, 15, 16, 17, 18, 19, 20, 109, 110, 111, 112, 113, 114, 115, 116, 117, 118, 119, 120, 121, 122, 123, 124, 125, 126, 127, 128, 129, 130, 131, 132, 133, 134, 135, 136, 137, 138, 139, 140, 141, 142, 143, 144, 145, 212, 213, 214, 215, 216, 217, 218, 219, 220, 221, 222, 223, 224, 225, 226, 227, 228] (by decide +kernel) (by decide +kernel)
set_option maxRecDepth 20000 in
theorem gX1_readElement_X1_isDocumentName : GoodIn wsX1_readElement (wsV RX1 124 RX1 yX1_isDocumentName wsX1_isDocumentName) := goodIn_app (goodIn_of _ (by decide +kernel)) ggX1_readElement_X1_isDocumentName
set_option maxRecDepth 20000 in
theorem ggX1_readElement_X1_readBlock : GoodIn wsX1_readElement wsX1_readBlock := goodIn_r _ [149, 85, 8, 91, 6, 150, 151, 152, 153, 24, 25, 26, 12, 27, 28, 29, 66, 67, 68, 69, 14, 15, 16, 17, 18, 19, 20, 21, 22, 23, 70, 71, 72, 73, 74, 75, 76, 77, 78, 30, 31, 32, 33, 34, 154, 155, 156, 157, 158, 159, 160, 161, 162, 163, 164, 165, 166, 167, 168, 169, 170, 171, 172, 173, 174, 175, 176, 177, 178, 179, 180, 181, 182, 183, 184, 185, 186, 187, 188, 189, 190, 191, 192, 193, 194, 195, 196, 197, 198, 199, 200, 201, 202, 203, 204, 205, 206, 212, 213, 214, 215, 216, 217, 218, 219, 220, 221, 222, 223, 224, 225, 226, 227, 228, 229, 230, 231, 232] (by decide +kernel) (by decide +kernel)
set_option maxRecDepth 20000 in
theorem gX1_readElement_X1_readBlock : GoodIn wsX1_readElement (wsV RX1 127 RX1 yX1_readBlock wsX1_readBlock) := goodIn_app (goodIn_of _ (by decide +kernel)) ggX1_readElement_X1_readBlock
theorem dX1_readElement_0 : decode cX1_readElement 0 = .ok (.aload_n 0, 1) := by decide +kernel
theorem dX1_readElement_1 : decode cX1_readElement 1 = .ok (.iload_n 2, 1) := by decide +kernel
theorem dX1_readElement_2 : decode cX1_readElement 2 = .ok (.aload_n 1, 1) := by decide +kernel
theorem dX1_readElement_3 : decode cX1_readElement 3 = .ok (.getfield 61, 3) := by decide +kernel
theorem dX1_readElement_6 : decode cX1_readElement 6 = .ok (.invokevirtual 96, 3) := by decide +kernel
theorem dX1_readElement_9 : decode cX1_readElement 9 = .ok (.istore_n 3, 1) := by decide +kernel
theorem dX1_readElement_10 : decode cX1_readElement 10 = .ok (.iload_n 3, 1) := by decide +kernel
theorem dX1_readElement_11 : decode cX1_readElement 11 = .ok (.iconst (-1), 1) := by decide +kernel
theorem dX1_readElement_12 : decode cX1_readElement 12 = .ok (.if_icmp .ne 5, 3) := by decide +kernel
theorem dX1_readElement_15 : decode cX1_readElement 15 = .ok (.iconst (-1), 1) := by decide +kernel
theorem dX1_readElement_16 : decode cX1_readElement 16 = .ok (.ireturn, 1) := by decide +kernel
theorem dX1_readElement_17 : decode cX1_readElement 17 = .ok (.aload_n 1, 1) := by decide +kernel
theorem dX1_readElement_18 : decode cX1_readElement 18 = .ok (.getfield 84, 3) := by decide +kernel
theorem dX1_readElement_21 : decode cX1_readElement 21 = .ok (.ifCond .eq 16, 3) := by decide +kernel
theorem dX1_readElement_24 : decode cX1_readElement 24 = .ok (.iload_n 3, 1) := by decide +kernel
theorem dX1_readElement_25 : decode cX1_readElement 25 = .ok (.ldc 88, 2) := by decide +kernel
theorem dX1_readElement_27 : decode cX1_readElement 27 = .ok (.if_icmp .ne 10, 3) := by decide +kernel
theorem dX1_readElement_30 : decode cX1_readElement 30 = .ok (.aload_n 0, 1) := by decide +kernel
theorem dX1_readElement_31 : decode cX1_readElement 31 = .ok (.aload_n 1, 1) := by decide +kernel
theorem dX1_readElement_32 : decode cX1_readElement 32 = .ok (.iload_n 2, 1) := by decide +kernel
theorem dX1_readElement_33 : decode cX1_readElement 33 = .ok (.invokevirtual 68, 3) := by decide +kernel
theorem dX1_readElement_36 : decode cX1_readElement 36 = .ok (.ireturn, 1) := by decide +kernel
theorem dX1_readElement_37 : decode cX1_readElement 37 = .ok (.iload_n 3, 1) := by decide +kernel
theorem dX1_readElement_38 : decode cX1_readElement 38 = .ok (.aload_n 1, 1) := by decide +kernel
theorem dX1_readElement_39 : decode cX1_readElement 39 = .ok (.getfield 75, 3) := by decide +kernel
theorem dX1_readElement_42 : decode cX1_readElement 42 = .ok (.invokestatic 99, 3) := by decide +kernel
theorem dX1_readElement_45 : decode cX1_readElement 45 = .ok (.istore 4, 2) := by decide +kernel
theorem dX1_readElement_47 : decode cX1_readElement 47 = .ok (.iload 4, 2) := by decide +kernel
theorem dX1_readElement_49 : decode cX1_readElement 49 = .ok (.iconst (-1), 1) := by decide +kernel
theorem dX1_readElement_50 : decode cX1_readElement 50 = .ok (.if_icmp .eq 14, 3) := by decide +kernel
theorem dX1_readElement_53 : decode cX1_readElement 53 = .ok (.iload_n 3, 1) := by decide +kernel
theorem dX1_readElement_54 : decode cX1_readElement 54 = .ok (.aload_n 1, 1) := by decide +kernel
theorem dX1_readElement_55 : decode cX1_readElement 55 = .ok (.getfield 81, 3) := by decide +kernel
theorem dX1_readElement_58 : decode cX1_readElement 58 = .ok (.invokestatic 102, 3) := by decide +kernel
theorem dX1_readElement_61 : decode cX1_readElement 61 = .ok (.ifCond .ne 10, 3) := by decide +kernel
theorem dX1_readElement_64 : decode cX1_readElement 64 = .ok (.aload_n 0, 1) := by decide +kernel
theorem dX1_readElement_65 : decode cX1_readElement 65 = .ok (.iconst 2, 1) := by decide +kernel
theorem dX1_readElement_66 : decode cX1_readElement 66 = .ok (.iload_n 2, 1) := by decide +kernel
theorem dX1_readElement_67 : decode cX1_readElement 67 = .ok (.invokevirtual 71, 3) := by decide +kernel
theorem dX1_readElement_70 : decode cX1_readElement 70 = .ok (.ireturn, 1) := by decide +kernel
theorem dX1_readElement_71 : decode cX1_readElement 71 = .ok (.aload_n 0, 1) := by decide +kernel
theorem dX1_readElement_72 : decode cX1_readElement 72 = .ok (.iload_n 2, 1) := by decide +kernel
theorem dX1_readElement_73 : decode cX1_readElement 73 = .ok (.iload_n 2, 1) := by decide +kernel
theorem dX1_readElement_74 : decode cX1_readElement 74 = .ok (.aload_n 0, 1) := by decide +kernel
theorem dX1_readElement_75 : decode cX1_readElement 75 = .ok (.getfield 24, 3) := by decide +kernel
theorem dX1_readElement_78 : decode cX1_readElement 78 = .ok (.iload_n 2, 1) := by decide +kernel
theorem dX1_readElement_79 : decode cX1_readElement 79 = .ok (.invokevirtual 105, 3) := by decide +kernel
theorem dX1_readElement_82 : decode cX1_readElement 82 = .ok (.invokestatic 111, 3) := by decide +kernel
theorem dX1_readElement_85 : decode cX1_readElement 85 = .ok (.iadd, 1) := by decide +kernel
theorem dX1_readElement_86 : decode cX1_readElement 86 = .ok (.aload_n 1, 1) := by decide +kernel
theorem dX1_readElement_87 : decode cX1_readElement 87 = .ok (.getfield 61, 3) := by decide +kernel
theorem dX1_readElement_90 : decode cX1_readElement 90 = .ok (.iload_n 3, 1) := by decide +kernel
theorem dX1_readElement_91 : decode cX1_readElement 91 = .ok (.invokevirtual 114, 3) := by decide +kernel
theorem dX1_readElement_94 : decode cX1_readElement 94 = .ok (.istore 5, 2) := by decide +kernel
theorem dX1_readElement_96 : decode cX1_readElement 96 = .ok (.iload 5, 2) := by decide +kernel
theorem dX1_readElement_98 : decode cX1_readElement 98 = .ok (.iconst (-1), 1) := by decide +kernel
theorem dX1_readElement_99 : decode cX1_readElement 99 = .ok (.if_icmp .ne 5, 3) := by decide +kernel
theorem dX1_readElement_102 : decode cX1_readElement 102 = .ok (.iconst (-1), 1) := by decide +kernel
theorem dX1_readElement_103 : decode cX1_readElement 103 = .ok (.ireturn, 1) := by decide +kernel
theorem dX1_readElement_104 : decode cX1_readElement 104 = .ok (.iload 4, 2) := by decide +kernel
theorem dX1_readElement_106 : decode cX1_readElement 106 = .ok (.iconst 2, 1) := by decide +kernel
theorem dX1_readElement_107 : decode cX1_readElement 107 = .ok (.invokestatic 117, 3) := by decide +kernel
theorem dX1_readElement_110 : decode cX1_readElement 110 = .ok (.lconst 0, 1) := by decide +kernel
theorem dX1_readElement_111 : decode cX1_readElement 111 = .ok (.lcmp, 1) := by decide +kernel
theorem dX1_readElement_112 : decode cX1_readElement 112 = .ok (.ifCond .eq 22, 3) := by decide +kernel
theorem dX1_readElement_115 : decode cX1_readElement 115 = .ok (.aload_n 1, 1) := by decide +kernel
theorem dX1_readElement_116 : decode cX1_readElement 116 = .ok (.getfield 81, 3) := by decide +kernel
theorem dX1_readElement_119 : decode cX1_readElement 119 = .ok (.iload 4, 2) := by decide +kernel
theorem dX1_readElement_121 : decode cX1_readElement 121 = .ok (.ishr, 1) := by decide +kernel
theorem dX1_readElement_122 : decode cX1_readElement 122 = .ok (.iconst 1, 1) := by decide +kernel
theorem dX1_readElement_123 : decode cX1_readElement 123 = .ok (.iand, 1) := by decide +kernel
theorem dX1_readElement_124 : decode cX1_readElement 124 = .ok (.ifCond .eq 10, 3) := by decide +kernel
theorem dX1_readElement_127 : decode cX1_readElement 127 = .ok (.aload_n 0, 1) := by decide +kernel
theorem dX1_readElement_128 : decode cX1_readElement 128 = .ok (.iconst 4, 1) := by decide +kernel
theorem dX1_readElement_129 : decode cX1_readElement 129 = .ok (.iload_n 2, 1) := by decide +kernel
theorem dX1_readElement_130 : decode cX1_readElement 130 = .ok (.invokevirtual 71, 3) := by decide +kernel
theorem dX1_readElement_133 : decode cX1_readElement 133 = .ok (.ireturn, 1) := by decide +kernel
theorem dX1_readElement_134 : decode cX1_readElement 134 = .ok (.aload_n 1, 1) := by decide +kernel
theorem dX1_readElement_135 : decode cX1_readElement 135 = .ok (.dup, 1) := by decide +kernel
theorem dX1_readElement_136 : decode cX1_readElement 136 = .ok (.getfield 81, 3) := by decide +kernel
theorem dX1_readElement_139 : decode cX1_readElement 139 = .ok (.iconst 1, 1) := by decide +kernel
theorem dX1_readElement_140 : decode cX1_readElement 140 = .ok (.iload 4, 2) := by decide +kernel
theorem dX1_readElement_142 : decode cX1_readElement 142 = .ok (.ishl, 1) := by decide +kernel
theorem dX1_readElement_143 : decode cX1_readElement 143 = .ok (.ior, 1) := by decide +kernel
theorem dX1_readElement_144 : decode cX1_readElement 144 = .ok (.putfield 81, 3) := by decide +kernel
theorem dX1_readElement_147 : decode cX1_readElement 147 = .ok (.aload_n 0, 1) := by decide +kernel
theorem dX1_readElement_148 : decode cX1_readElement 148 = .ok (.getfield 89, 3) := by decide +kernel
theorem dX1_readElement_151 : decode cX1_readElement 151 = .ok (.ldc2_w 45, 3) := by decide +kernel
theorem dX1_readElement_154 : decode cX1_readElement 154 = .ok (.lcmp, 1) := by decide +kernel
theorem dX1_readElement_155 : decode cX1_readElement 155 = .ok (.ifCond .ne 10, 3) := by decide +kernel
theorem dX1_readElement_158 : decode cX1_readElement 158 = .ok (.aload_n 1, 1) := by decide +kernel
theorem dX1_readElement_159 : decode cX1_readElement 159 = .ok (.getfield 61, 3) := by decide +kernel
theorem dX1_readElement_162 : decode cX1_readElement 162 = .ok (.goto 11, 3) := by decide +kernel
theorem dX1_readElement_165 : decode cX1_readElement 165 = .ok (.iload 5, 2) := by decide +kernel
theorem dX1_readElement_167 : decode cX1_readElement 167 = .ok (.aload_n 0, 1) := by decide +kernel
theorem dX1_readElement_168 : decode cX1_readElement 168 = .ok (.getfield 89, 3) := by decide +kernel
theorem dX1_readElement_171 : decode cX1_readElement 171 = .ok (.l2i, 1) := by decide +kernel
theorem dX1_readElement_172 : decode cX1_readElement 172 = .ok (.iadd, 1) := by decide +kernel
theorem dX1_readElement_173 : decode cX1_readElement 173 = .ok (.istore 6, 2) := by decide +kernel
theorem dX1_readElement_175 : decode cX1_readElement 175 = .ok (.iload 4, 2) := by decide +kernel
theorem dX1_readElement_177 : decode cX1_readElement 177 = .ok (.iconst 3, 1) := by decide +kernel
theorem dX1_readElement_178 : decode cX1_readElement 178 = .ok (.invokestatic 117, 3) := by decide +kernel
theorem dX1_readElement_181 : decode cX1_readElement 181 = .ok (.l2i, 1) := by decide +kernel
theorem dX1_readElement_182 : decode cX1_readElement 182 = .ok (.tableswitch 91 0 4 #[34, 45, 91, 57, 80], 34) := by decide +kernel
theorem dX1_readElement_216 : decode cX1_readElement 216 = .ok (.aload_n 0, 1) := by decide +kernel
theorem dX1_readElement_217 : decode cX1_readElement 217 = .ok (.iload_n 3, 1) := by decide +kernel
theorem dX1_readElement_218 : decode cX1_readElement 218 = .ok (.iload_n 2, 1) := by decide +kernel
theorem dX1_readElement_219 : decode cX1_readElement 219 = .ok (.iload 5, 2) := by decide +kernel
theorem dX1_readElement_221 : decode cX1_readElement 221 = .ok (.iload 6, 2) := by decide +kernel
theorem dX1_readElement_223 : decode cX1_readElement 223 = .ok (.invokevirtual 57, 3) := by decide +kernel
theorem dX1_readElement_226 : decode cX1_readElement 226 = .ok (.ireturn, 1) := by decide +kernel
theorem dX1_readElement_227 : decode cX1_readElement 227 = .ok (.aload_n 0, 1) := by decide +kernel
theorem dX1_readElement_228 : decode cX1_readElement 228 = .ok (.iload 4, 2) := by decide +kernel
theorem dX1_readElement_230 : decode cX1_readElement 230 = .ok (.iload_n 2, 1) := by decide +kernel
theorem dX1_readElement_231 : decode cX1_readElement 231 = .ok (.iload 5, 2) := by decide +kernel
theorem dX1_readElement_233 : decode cX1_readElement 233 = .ok (.iload 6, 2) := by decide +kernel
theorem dX1_readElement_235 : decode cX1_readElement 235 = .ok (.invokevirtual 121, 3) := by decide +kernel
theorem dX1_readElement_238 : decode cX1_readElement 238 = .ok (.ireturn, 1) := by decide +kernel
theorem dX1_readElement_239 : decode cX1_readElement 239 = .ok (.aload_n 0, 1) := by decide +kernel
theorem dX1_readElement_240 : decode cX1_readElement 240 = .ok (.iload 5, 2) := by decide +kernel
theorem dX1_readElement_242 : decode cX1_readElement 242 = .ok (.iload 6, 2) := by decide +kernel
theorem dX1_readElement_244 : decode cX1_readElement 244 = .ok (.invokevirtual 124, 3) := by decide +kernel
theorem dX1_readElement_247 : decode cX1_readElement 247 = .ok (.ifCond .eq 8, 3) := by decide +kernel
theorem dX1_readElement_250 : decode cX1_readElement 250 = .ok (.iload 6, 2) := by decide +kernel
theorem dX1_readElement_252 : decode cX1_readElement 252 = .ok (.goto 9, 3) := by decide +kernel
theorem dX1_readElement_255 : decode cX1_readElement 255 = .ok (.aload_n 0, 1) := by decide +kernel
theorem dX1_readElement_256 : decode cX1_readElement 256 = .ok (.iconst 5, 1) := by decide +kernel
theorem dX1_readElement_257 : decode cX1_readElement 257 = .ok (.iload_n 2, 1) := by decide +kernel
theorem dX1_readElement_258 : decode cX1_readElement 258 = .ok (.invokevirtual 71, 3) := by decide +kernel
theorem dX1_readElement_261 : decode cX1_readElement 261 = .ok (.ireturn, 1) := by decide +kernel
theorem dX1_readElement_262 : decode cX1_readElement 262 = .ok (.aload_n 0, 1) := by decide +kernel
theorem dX1_readElement_263 : decode cX1_readElement 263 = .ok (.iload_n 3, 1) := by decide +kernel
theorem dX1_readElement_264 : decode cX1_readElement 264 = .ok (.iload_n 2, 1) := by decide +kernel
theorem dX1_readElement_265 : decode cX1_readElement 265 = .ok (.iload 5, 2) := by decide +kernel
theorem dX1_readElement_267 : decode cX1_readElement 267 = .ok (.iload 6, 2) := by decide +kernel
theorem dX1_readElement_269 : decode cX1_readElement 269 = .ok (.invokevirtual 127, 3) := by decide +kernel
theorem dX1_readElement_272 : decode cX1_readElement 272 = .ok (.ireturn, 1) := by decide +kernel
theorem dX1_readElement_273 : decode cX1_readElement 273 = .ok (.iload 6, 2) := by decide +kernel
theorem dX1_readElement_275 : decode cX1_readElement 275 = .ok (.iload 5, 2) := by decide +kernel
theorem dX1_readElement_277 : decode cX1_readElement 277 = .ok (.isub, 1) := by decide +kernel
theorem dX1_readElement_278 : decode cX1_readElement 278 = .ok (.i2l, 1) := by decide +kernel
theorem dX1_readElement_279 : decode cX1_readElement 279 = .ok (.iload 4, 2) := by decide +kernel
theorem dX1_readElement_281 : decode cX1_readElement 281 = .ok (.iconst 4, 1) := by decide +kernel
theorem dX1_readElement_282 : decode cX1_readElement 282 = .ok (.invokestatic 117, 3) := by decide +kernel
theorem dX1_readElement_285 : decode cX1_readElement 285 = .ok (.lcmp, 1) := by decide +kernel
theorem dX1_readElement_286 : decode cX1_readElement 286 = .ok (.ifCond .lt 8, 3) := by decide +kernel
theorem dX1_readElement_289 : decode cX1_readElement 289 = .ok (.iload 6, 2) := by decide +kernel
theorem dX1_readElement_291 : decode cX1_readElement 291 = .ok (.goto 9, 3) := by decide +kernel
theorem dX1_readElement_294 : decode cX1_readElement 294 = .ok (.aload_n 0, 1) := by decide +kernel
theorem dX1_readElement_295 : decode cX1_readElement 295 = .ok (.iconst 5, 1) := by decide +kernel
theorem dX1_readElement_296 : decode cX1_readElement 296 = .ok (.iload_n 2, 1) := by decide +kernel
theorem dX1_readElement_297 : decode cX1_readElement 297 = .ok (.invokevirtual 71, 3) := by decide +kernel
theorem dX1_readElement_300 : decode cX1_readElement 300 = .ok (.ireturn, 1) := by decide +kernel
theorem dX1_column_0 : decode cX1_column 0 = .ok (.iload_n 0, 1) := by decide +kernel
theorem dX1_column_1 : decode cX1_column 1 = .ok (.bipush 6, 2) := by decide +kernel
theorem dX1_column_3 : decode cX1_column 3 = .ok (.imul, 1) := by decide +kernel
theorem dX1_column_4 : decode cX1_column 4 = .ok (.iload_n 1, 1) := by decide +kernel
theorem dX1_column_5 : decode cX1_column 5 = .ok (.iadd, 1) := by decide +kernel
theorem dX1_column_6 : decode cX1_column 6 = .ok (.istore_n 2, 1) := by decide +kernel
theorem dX1_column_7 : decode cX1_column 7 = .ok (.iload_n 2, 1) := by decide +kernel
theorem dX1_column_8 : decode cX1_column 8 = .ok (.ifCond .lt 19, 3) := by decide +kernel
theorem dX1_column_11 : decode cX1_column 11 = .ok (.iload_n 2, 1) := by decide +kernel
theorem dX1_column_12 : decode cX1_column 12 = .ok (.getstatic 130, 3) := by decide +kernel
theorem dX1_column_15 : decode cX1_column 15 = .ok (.arraylength, 1) := by decide +kernel
theorem dX1_column_16 : decode cX1_column 16 = .ok (.if_icmp .ge 11, 3) := by decide +kernel
theorem dX1_column_19 : decode cX1_column 19 = .ok (.getstatic 130, 3) := by decide +kernel
theorem dX1_column_22 : decode cX1_column 22 = .ok (.iload_n 2, 1) := by decide +kernel
theorem dX1_column_23 : decode cX1_column 23 = .ok (.laload, 1) := by decide +kernel
theorem dX1_column_24 : decode cX1_column 24 = .ok (.goto 6, 3) := by decide +kernel
theorem dX1_column_27 : decode cX1_column 27 = .ok (.ldc2_w 45, 3) := by decide +kernel
theorem dX1_column_30 : decode cX1_column 30 = .ok (.lreturn, 1) := by decide +kernel
set_option maxRecDepth 20000 in
theorem ggX1_rowOf_X1_column : GoodIn wsX1_rowOf wsX1_column := goodIn_r _ [5, 6, 1] (by decide +kernel) (by decide +kernel)
set_option maxRecDepth 20000 in
theorem gX1_rowOf_X1_column : GoodIn wsX1_rowOf (va_wsS RX1 117 yX1_column wsX1_column) := goodIn_app (goodIn_of _ (by decide +kernel)) ggX1_rowOf_X1_column
theorem dX1_rowOf_0 : decode cX1_rowOf 0 = .ok (.iconst 0, 1) := by decide +kernel
theorem dX1_rowOf_1 : decode cX1_rowOf 1 = .ok (.istore_n 2, 1) := by decide +kernel
theorem dX1_rowOf_2 : decode cX1_rowOf 2 = .ok (.iload_n 2, 1) := by decide +kernel
theorem dX1_rowOf_3 : decode cX1_rowOf 3 = .ok (.bipush 27, 2) := by decide +kernel
theorem dX1_rowOf_5 : decode cX1_rowOf 5 = .ok (.if_icmp .ge 47, 3) := by decide +kernel
theorem dX1_rowOf_8 : decode cX1_rowOf 8 = .ok (.iload_n 2, 1) := by decide +kernel
theorem dX1_rowOf_9 : decode cX1_rowOf 9 = .ok (.iconst 0, 1) := by decide +kernel
theorem dX1_rowOf_10 : decode cX1_rowOf 10 = .ok (.invokestatic 117, 3) := by decide +kernel
theorem dX1_rowOf_13 : decode cX1_rowOf 13 = .ok (.iload_n 0, 1) := by decide +kernel
theorem dX1_rowOf_14 : decode cX1_rowOf 14 = .ok (.i2l, 1) := by decide +kernel
theorem dX1_rowOf_15 : decode cX1_rowOf 15 = .ok (.lcmp, 1) := by decide +kernel
theorem dX1_rowOf_16 : decode cX1_rowOf 16 = .ok (.ifCond .ne 30, 3) := by decide +kernel
theorem dX1_rowOf_19 : decode cX1_rowOf 19 = .ok (.iload_n 2, 1) := by decide +kernel
theorem dX1_rowOf_20 : decode cX1_rowOf 20 = .ok (.iconst 1, 1) := by decide +kernel
theorem dX1_rowOf_21 : decode cX1_rowOf 21 = .ok (.invokestatic 117, 3) := by decide +kernel
theorem dX1_rowOf_24 : decode cX1_rowOf 24 = .ok (.lstore_n 3, 1) := by decide +kernel
theorem dX1_rowOf_25 : decode cX1_rowOf 25 = .ok (.lload_n 3, 1) := by decide +kernel
theorem dX1_rowOf_26 : decode cX1_rowOf 26 = .ok (.ldc2_w 45, 3) := by decide +kernel
theorem dX1_rowOf_29 : decode cX1_rowOf 29 = .ok (.lcmp, 1) := by decide +kernel
theorem dX1_rowOf_30 : decode cX1_rowOf 30 = .ok (.ifCond .eq 10, 3) := by decide +kernel
theorem dX1_rowOf_33 : decode cX1_rowOf 33 = .ok (.lload_n 3, 1) := by decide +kernel
theorem dX1_rowOf_34 : decode cX1_rowOf 34 = .ok (.iload_n 1, 1) := by decide +kernel
theorem dX1_rowOf_35 : decode cX1_rowOf 35 = .ok (.i2l, 1) := by decide +kernel
theorem dX1_rowOf_36 : decode cX1_rowOf 36 = .ok (.lcmp, 1) := by decide +kernel
theorem dX1_rowOf_37 : decode cX1_rowOf 37 = .ok (.ifCond .ne 7, 3) := by decide +kernel
theorem dX1_rowOf_40 : decode cX1_rowOf 40 = .ok (.iload_n 2, 1) := by decide +kernel
theorem dX1_rowOf_41 : decode cX1_rowOf 41 = .ok (.goto 4, 3) := by decide +kernel
theorem dX1_rowOf_44 : decode cX1_rowOf 44 = .ok (.iconst (-1), 1) := by decide +kernel
theorem dX1_rowOf_45 : decode cX1_rowOf 45 = .ok (.ireturn, 1) := by decide +kernel
theorem dX1_rowOf_46 : decode cX1_rowOf 46 = .ok (.iinc 2 1, 3) := by decide +kernel
theorem dX1_rowOf_49 : decode cX1_rowOf 49 = .ok (.goto (-47), 3) := by decide +kernel
theorem dX1_rowOf_52 : decode cX1_rowOf 52 = .ok (.iconst (-1), 1) := by decide +kernel
theorem dX1_rowOf_53 : decode cX1_rowOf 53 = .ok (.ireturn, 1) := by decide +kernel
set_option maxRecDepth 20000 in
theorem ggX1_lacksSome_X1_column : GoodIn wsX1_lacksSome wsX1_column := goodIn_r _ [5, 6, 7] (by decide +kernel) (by decide +kernel)
set_option maxRecDepth 20000 in
theorem gX1_lacksSome_X1_column : GoodIn wsX1_lacksSome (va_wsS RX1 117 yX1_column wsX1_column) := goodIn_app (goodIn_of _ (by decide +kernel)) ggX1_lacksSome_X1_column
theorem dX1_lacksSome_0 : decode cX1_lacksSome 0 = .ok (.iconst 0, 1) := by decide +kernel
theorem dX1_lacksSome_1 : decode cX1_lacksSome 1 = .ok (.istore_n 2, 1) := by decide +kernel
theorem dX1_lacksSome_2 : decode cX1_lacksSome 2 = .ok (.iload_n 2, 1) := by decide +kernel
theorem dX1_lacksSome_3 : decode cX1_lacksSome 3 = .ok (.bipush 27, 2) := by decide +kernel
theorem dX1_lacksSome_5 : decode cX1_lacksSome 5 = .ok (.if_icmp .ge 52, 3) := by decide +kernel
theorem dX1_lacksSome_8 : decode cX1_lacksSome 8 = .ok (.iload_n 2, 1) := by decide +kernel
theorem dX1_lacksSome_9 : decode cX1_lacksSome 9 = .ok (.iconst 1, 1) := by decide +kernel
theorem dX1_lacksSome_10 : decode cX1_lacksSome 10 = .ok (.invokestatic 117, 3) := by decide +kernel
theorem dX1_lacksSome_13 : decode cX1_lacksSome 13 = .ok (.iload_n 0, 1) := by decide +kernel
theorem dX1_lacksSome_14 : decode cX1_lacksSome 14 = .ok (.i2l, 1) := by decide +kernel
theorem dX1_lacksSome_15 : decode cX1_lacksSome 15 = .ok (.lcmp, 1) := by decide +kernel
theorem dX1_lacksSome_16 : decode cX1_lacksSome 16 = .ok (.ifCond .ne 19, 3) := by decide +kernel
theorem dX1_lacksSome_19 : decode cX1_lacksSome 19 = .ok (.iload_n 2, 1) := by decide +kernel
theorem dX1_lacksSome_20 : decode cX1_lacksSome 20 = .ok (.iconst 2, 1) := by decide +kernel
theorem dX1_lacksSome_21 : decode cX1_lacksSome 21 = .ok (.invokestatic 117, 3) := by decide +kernel
theorem dX1_lacksSome_24 : decode cX1_lacksSome 24 = .ok (.ldc2_w 134, 3) := by decide +kernel
theorem dX1_lacksSome_27 : decode cX1_lacksSome 27 = .ok (.lcmp, 1) := by decide +kernel
theorem dX1_lacksSome_28 : decode cX1_lacksSome 28 = .ok (.ifCond .ne 7, 3) := by decide +kernel
theorem dX1_lacksSome_31 : decode cX1_lacksSome 31 = .ok (.iconst 1, 1) := by decide +kernel
theorem dX1_lacksSome_32 : decode cX1_lacksSome 32 = .ok (.goto 4, 3) := by decide +kernel
theorem dX1_lacksSome_35 : decode cX1_lacksSome 35 = .ok (.iconst 0, 1) := by decide +kernel
theorem dX1_lacksSome_36 : decode cX1_lacksSome 36 = .ok (.istore_n 3, 1) := by decide +kernel
theorem dX1_lacksSome_37 : decode cX1_lacksSome 37 = .ok (.iload_n 3, 1) := by decide +kernel
theorem dX1_lacksSome_38 : decode cX1_lacksSome 38 = .ok (.ifCond .eq 13, 3) := by decide +kernel
theorem dX1_lacksSome_41 : decode cX1_lacksSome 41 = .ok (.iload_n 1, 1) := by decide +kernel
theorem dX1_lacksSome_42 : decode cX1_lacksSome 42 = .ok (.iload_n 2, 1) := by decide +kernel
theorem dX1_lacksSome_43 : decode cX1_lacksSome 43 = .ok (.ishr, 1) := by decide +kernel
theorem dX1_lacksSome_44 : decode cX1_lacksSome 44 = .ok (.iconst 1, 1) := by decide +kernel
theorem dX1_lacksSome_45 : decode cX1_lacksSome 45 = .ok (.iand, 1) := by decide +kernel
theorem dX1_lacksSome_46 : decode cX1_lacksSome 46 = .ok (.ifCond .ne 5, 3) := by decide +kernel
theorem dX1_lacksSome_49 : decode cX1_lacksSome 49 = .ok (.iconst 1, 1) := by decide +kernel
theorem dX1_lacksSome_50 : decode cX1_lacksSome 50 = .ok (.ireturn, 1) := by decide +kernel
theorem dX1_lacksSome_51 : decode cX1_lacksSome 51 = .ok (.iinc 2 1, 3) := by decide +kernel
theorem dX1_lacksSome_54 : decode cX1_lacksSome 54 = .ok (.goto (-52), 3) := by decide +kernel
theorem dX1_lacksSome_57 : decode cX1_lacksSome 57 = .ok (.iconst 0, 1) := by decide +kernel
theorem dX1_lacksSome_58 : decode cX1_lacksSome 58 = .ok (.ireturn, 1) := by decide +kernel
set_option maxRecDepth 20000 in
theorem ggX1_mayStand_X1_isSeen : GoodIn wsX1_mayStand wsX1_isSeen := goodIn_r _ [8, 9, 10, 7, 11, 12, 13, 14, 15, 16] (by decide +kernel) (by decide +kernel)
set_option maxRecDepth 20000 in
theorem gX1_mayStand_X1_isSeen : GoodIn wsX1_mayStand (va_wsS RX1 137 yX1_isSeen wsX1_isSeen) := goodIn_app (goodIn_of _ (by decide +kernel)) ggX1_mayStand_X1_isSeen
theorem dX1_mayStand_0 : decode cX1_mayStand 0 = .ok (.iload_n 0, 1) := by decide +kernel
theorem dX1_mayStand_1 : decode cX1_mayStand 1 = .ok (.lookupswitch 119 #[(357149030, 93), (374648427, 93), (408125543, 67), (440786851, 51), (524531317, 110)], 51) := by decide +kernel
theorem dX1_mayStand_52 : decode cX1_mayStand 52 = .ok (.ldc 136, 2) := by decide +kernel
theorem dX1_mayStand_54 : decode cX1_mayStand 54 = .ok (.iconst 0, 1) := by decide +kernel
theorem dX1_mayStand_55 : decode cX1_mayStand 55 = .ok (.iload_n 1, 1) := by decide +kernel
theorem dX1_mayStand_56 : decode cX1_mayStand 56 = .ok (.invokestatic 137, 3) := by decide +kernel
theorem dX1_mayStand_59 : decode cX1_mayStand 59 = .ok (.ifCond .ne 7, 3) := by decide +kernel
theorem dX1_mayStand_62 : decode cX1_mayStand 62 = .ok (.iconst 1, 1) := by decide +kernel
theorem dX1_mayStand_63 : decode cX1_mayStand 63 = .ok (.goto 4, 3) := by decide +kernel
theorem dX1_mayStand_66 : decode cX1_mayStand 66 = .ok (.iconst 0, 1) := by decide +kernel
theorem dX1_mayStand_67 : decode cX1_mayStand 67 = .ok (.ireturn, 1) := by decide +kernel
theorem dX1_mayStand_68 : decode cX1_mayStand 68 = .ok (.ldc 141, 2) := by decide +kernel
theorem dX1_mayStand_70 : decode cX1_mayStand 70 = .ok (.iconst 0, 1) := by decide +kernel
theorem dX1_mayStand_71 : decode cX1_mayStand 71 = .ok (.iload_n 1, 1) := by decide +kernel
theorem dX1_mayStand_72 : decode cX1_mayStand 72 = .ok (.invokestatic 137, 3) := by decide +kernel
theorem dX1_mayStand_75 : decode cX1_mayStand 75 = .ok (.ifCond .eq 17, 3) := by decide +kernel
theorem dX1_mayStand_78 : decode cX1_mayStand 78 = .ok (.ldc 136, 2) := by decide +kernel
theorem dX1_mayStand_80 : decode cX1_mayStand 80 = .ok (.iconst 0, 1) := by decide +kernel
theorem dX1_mayStand_81 : decode cX1_mayStand 81 = .ok (.iload_n 1, 1) := by decide +kernel
theorem dX1_mayStand_82 : decode cX1_mayStand 82 = .ok (.invokestatic 137, 3) := by decide +kernel
theorem dX1_mayStand_85 : decode cX1_mayStand 85 = .ok (.ifCond .ne 7, 3) := by decide +kernel
theorem dX1_mayStand_88 : decode cX1_mayStand 88 = .ok (.iconst 1, 1) := by decide +kernel
theorem dX1_mayStand_89 : decode cX1_mayStand 89 = .ok (.goto 4, 3) := by decide +kernel
theorem dX1_mayStand_92 : decode cX1_mayStand 92 = .ok (.iconst 0, 1) := by decide +kernel
theorem dX1_mayStand_93 : decode cX1_mayStand 93 = .ok (.ireturn, 1) := by decide +kernel
theorem dX1_mayStand_94 : decode cX1_mayStand 94 = .ok (.ldc 88, 2) := by decide +kernel
theorem dX1_mayStand_96 : decode cX1_mayStand 96 = .ok (.ldc 136, 2) := by decide +kernel
theorem dX1_mayStand_98 : decode cX1_mayStand 98 = .ok (.iload_n 1, 1) := by decide +kernel
theorem dX1_mayStand_99 : decode cX1_mayStand 99 = .ok (.invokestatic 137, 3) := by decide +kernel
theorem dX1_mayStand_102 : decode cX1_mayStand 102 = .ok (.ifCond .ne 7, 3) := by decide +kernel
theorem dX1_mayStand_105 : decode cX1_mayStand 105 = .ok (.iconst 1, 1) := by decide +kernel
theorem dX1_mayStand_106 : decode cX1_mayStand 106 = .ok (.goto 4, 3) := by decide +kernel
theorem dX1_mayStand_109 : decode cX1_mayStand 109 = .ok (.iconst 0, 1) := by decide +kernel
theorem dX1_mayStand_110 : decode cX1_mayStand 110 = .ok (.ireturn, 1) := by decide +kernel
theorem dX1_mayStand_111 : decode cX1_mayStand 111 = .ok (.ldc 142, 2) := by decide +kernel
theorem dX1_mayStand_113 : decode cX1_mayStand 113 = .ok (.ldc 136, 2) := by decide +kernel
theorem dX1_mayStand_115 : decode cX1_mayStand 115 = .ok (.iload_n 1, 1) := by decide +kernel
theorem dX1_mayStand_116 : decode cX1_mayStand 116 = .ok (.invokestatic 137, 3) := by decide +kernel
theorem dX1_mayStand_119 : decode cX1_mayStand 119 = .ok (.ireturn, 1) := by decide +kernel
theorem dX1_mayStand_120 : decode cX1_mayStand 120 = .ok (.iconst 1, 1) := by decide +kernel
theorem dX1_mayStand_121 : decode cX1_mayStand 121 = .ok (.ireturn, 1) := by decide +kernel
set_option maxRecDepth 20000 in
theorem ggX1_isSeen_X1_rowOf : GoodIn wsX1_isSeen wsX1_rowOf := goodIn_r _ [4, 5, 6, 7, 3, 8, 9] (by decide +kernel) (by decide +kernel)
set_option maxRecDepth 20000 in
theorem gX1_isSeen_X1_rowOf : GoodIn wsX1_isSeen (va_wsS RX1 99 yX1_rowOf wsX1_rowOf) := goodIn_app (goodIn_of _ (by decide +kernel)) ggX1_isSeen_X1_rowOf
theorem dX1_isSeen_0 : decode cX1_isSeen 0 = .ok (.iload_n 0, 1) := by decide +kernel
theorem dX1_isSeen_1 : decode cX1_isSeen 1 = .ok (.iload_n 1, 1) := by decide +kernel
theorem dX1_isSeen_2 : decode cX1_isSeen 2 = .ok (.invokestatic 99, 3) := by decide +kernel
theorem dX1_isSeen_5 : decode cX1_isSeen 5 = .ok (.istore_n 3, 1) := by decide +kernel
theorem dX1_isSeen_6 : decode cX1_isSeen 6 = .ok (.iload_n 3, 1) := by decide +kernel
theorem dX1_isSeen_7 : decode cX1_isSeen 7 = .ok (.iconst (-1), 1) := by decide +kernel
theorem dX1_isSeen_8 : decode cX1_isSeen 8 = .ok (.if_icmp .eq 15, 3) := by decide +kernel
theorem dX1_isSeen_11 : decode cX1_isSeen 11 = .ok (.iload_n 2, 1) := by decide +kernel
theorem dX1_isSeen_12 : decode cX1_isSeen 12 = .ok (.iload_n 3, 1) := by decide +kernel
theorem dX1_isSeen_13 : decode cX1_isSeen 13 = .ok (.ishr, 1) := by decide +kernel
theorem dX1_isSeen_14 : decode cX1_isSeen 14 = .ok (.iconst 1, 1) := by decide +kernel
theorem dX1_isSeen_15 : decode cX1_isSeen 15 = .ok (.iand, 1) := by decide +kernel
theorem dX1_isSeen_16 : decode cX1_isSeen 16 = .ok (.ifCond .eq 7, 3) := by decide +kernel
theorem dX1_isSeen_19 : decode cX1_isSeen 19 = .ok (.iconst 1, 1) := by decide +kernel
theorem dX1_isSeen_20 : decode cX1_isSeen 20 = .ok (.goto 4, 3) := by decide +kernel
theorem dX1_isSeen_23 : decode cX1_isSeen 23 = .ok (.iconst 0, 1) := by decide +kernel
theorem dX1_isSeen_24 : decode cX1_isSeen 24 = .ok (.ireturn, 1) := by decide +kernel
theorem dX1_markedWidth_0 : decode cX1_markedWidth 0 = .ok (.iconst 1, 1) := by decide +kernel
theorem dX1_markedWidth_1 : decode cX1_markedWidth 1 = .ok (.istore_n 1, 1) := by decide +kernel
theorem dX1_markedWidth_2 : decode cX1_markedWidth 2 = .ok (.iload_n 1, 1) := by decide +kernel
theorem dX1_markedWidth_3 : decode cX1_markedWidth 3 = .ok (.bipush 8, 2) := by decide +kernel
theorem dX1_markedWidth_5 : decode cX1_markedWidth 5 = .ok (.if_icmp .gt 21, 3) := by decide +kernel
theorem dX1_markedWidth_8 : decode cX1_markedWidth 8 = .ok (.iload_n 0, 1) := by decide +kernel
theorem dX1_markedWidth_9 : decode cX1_markedWidth 9 = .ok (.sipush 256, 3) := by decide +kernel
theorem dX1_markedWidth_12 : decode cX1_markedWidth 12 = .ok (.iload_n 1, 1) := by decide +kernel
theorem dX1_markedWidth_13 : decode cX1_markedWidth 13 = .ok (.ishr, 1) := by decide +kernel
theorem dX1_markedWidth_14 : decode cX1_markedWidth 14 = .ok (.iand, 1) := by decide +kernel
theorem dX1_markedWidth_15 : decode cX1_markedWidth 15 = .ok (.ifCond .eq 5, 3) := by decide +kernel
theorem dX1_markedWidth_18 : decode cX1_markedWidth 18 = .ok (.iload_n 1, 1) := by decide +kernel
theorem dX1_markedWidth_19 : decode cX1_markedWidth 19 = .ok (.ireturn, 1) := by decide +kernel
theorem dX1_markedWidth_20 : decode cX1_markedWidth 20 = .ok (.iinc 1 1, 3) := by decide +kernel
theorem dX1_markedWidth_23 : decode cX1_markedWidth 23 = .ok (.goto (-21), 3) := by decide +kernel
theorem dX1_markedWidth_26 : decode cX1_markedWidth 26 = .ok (.iconst 0, 1) := by decide +kernel
theorem dX1_markedWidth_27 : decode cX1_markedWidth 27 = .ok (.ireturn, 1) := by decide +kernel
set_option maxRecDepth 20000 in
theorem ggX1_readId_X8_at : GoodIn wsX1_readId wsX8_at := goodIn_r _ [6, 7, 8, 37, 38, 39, 40] (by decide +kernel) (by decide +kernel)
set_option maxRecDepth 20000 in
theorem gX1_readId_X8_at : GoodIn wsX1_readId (wsV RX1 105 RX8 yX8_at wsX8_at) := goodIn_app (goodIn_of _ (by decide +kernel)) ggX1_readId_X8_at
set_option maxRecDepth 20000 in
theorem ggX1_readId_X1_markedWidth : GoodIn wsX1_readId wsX1_markedWidth := goodIn_r _ [12] (by decide +kernel) (by decide +kernel)
set_option maxRecDepth 20000 in
theorem gX1_readId_X1_markedWidth : GoodIn wsX1_readId (va_wsS RX1 111 yX1_markedWidth wsX1_markedWidth) := goodIn_app (goodIn_of _ (by decide +kernel)) ggX1_readId_X1_markedWidth
set_option maxRecDepth 20000 in
theorem ggX1_readId_X1_fail : GoodIn wsX1_readId wsX1_fail := goodIn_r _ [16, 17, 18, 24, 25, 26, 27, 28, 29, 30, 31, 32, 33, 34, 35, 36] (by decide +kernel) (by decide +kernel)
set_option maxRecDepth 20000 in
theorem gX1_readId_X1_fail : GoodIn wsX1_readId (wsV RX1 71 RX1 yX1_fail wsX1_fail) := goodIn_app (goodIn_of _ (by decide +kernel)) ggX1_readId_X1_fail
set_option maxRecDepth 20000 in
theorem ggX1_readId_X8_highFirst : GoodIn wsX1_readId wsX8_highFirst := goodIn_r _ [22, 23, 3, 4, 5, 6, 7, 8, 37, 38, 39, 40] (by decide +kernel) (by decide +kernel)
set_option maxRecDepth 20000 in
theorem gX1_readId_X8_highFirst : GoodIn wsX1_readId (wsV RX1 143 RX8 yX8_highFirst wsX8_highFirst) := goodIn_app (goodIn_of _ (by decide +kernel)) ggX1_readId_X8_highFirst
theorem dX1_readId_0 : decode cX1_readId 0 = .ok (.aload_n 0, 1) := by decide +kernel
theorem dX1_readId_1 : decode cX1_readId 1 = .ok (.getfield 24, 3) := by decide +kernel
theorem dX1_readId_4 : decode cX1_readId 4 = .ok (.iload_n 1, 1) := by decide +kernel
theorem dX1_readId_5 : decode cX1_readId 5 = .ok (.invokevirtual 105, 3) := by decide +kernel
theorem dX1_readId_8 : decode cX1_readId 8 = .ok (.invokestatic 111, 3) := by decide +kernel
theorem dX1_readId_11 : decode cX1_readId 11 = .ok (.istore_n 3, 1) := by decide +kernel
theorem dX1_readId_12 : decode cX1_readId 12 = .ok (.iload_n 3, 1) := by decide +kernel
theorem dX1_readId_13 : decode cX1_readId 13 = .ok (.ifCond .eq 8, 3) := by decide +kernel
theorem dX1_readId_16 : decode cX1_readId 16 = .ok (.iload_n 3, 1) := by decide +kernel
theorem dX1_readId_17 : decode cX1_readId 17 = .ok (.iconst 4, 1) := by decide +kernel
theorem dX1_readId_18 : decode cX1_readId 18 = .ok (.if_icmp .le 10, 3) := by decide +kernel
theorem dX1_readId_21 : decode cX1_readId 21 = .ok (.aload_n 0, 1) := by decide +kernel
theorem dX1_readId_22 : decode cX1_readId 22 = .ok (.iconst 2, 1) := by decide +kernel
theorem dX1_readId_23 : decode cX1_readId 23 = .ok (.iload_n 1, 1) := by decide +kernel
theorem dX1_readId_24 : decode cX1_readId 24 = .ok (.invokevirtual 71, 3) := by decide +kernel
theorem dX1_readId_27 : decode cX1_readId 27 = .ok (.ireturn, 1) := by decide +kernel
theorem dX1_readId_28 : decode cX1_readId 28 = .ok (.iload_n 3, 1) := by decide +kernel
theorem dX1_readId_29 : decode cX1_readId 29 = .ok (.iload_n 2, 1) := by decide +kernel
theorem dX1_readId_30 : decode cX1_readId 30 = .ok (.iload_n 1, 1) := by decide +kernel
theorem dX1_readId_31 : decode cX1_readId 31 = .ok (.isub, 1) := by decide +kernel
theorem dX1_readId_32 : decode cX1_readId 32 = .ok (.if_icmp .le 10, 3) := by decide +kernel
theorem dX1_readId_35 : decode cX1_readId 35 = .ok (.aload_n 0, 1) := by decide +kernel
theorem dX1_readId_36 : decode cX1_readId 36 = .ok (.iconst 1, 1) := by decide +kernel
theorem dX1_readId_37 : decode cX1_readId 37 = .ok (.iload_n 1, 1) := by decide +kernel
theorem dX1_readId_38 : decode cX1_readId 38 = .ok (.invokevirtual 71, 3) := by decide +kernel
theorem dX1_readId_41 : decode cX1_readId 41 = .ok (.ireturn, 1) := by decide +kernel
theorem dX1_readId_42 : decode cX1_readId 42 = .ok (.aload_n 0, 1) := by decide +kernel
theorem dX1_readId_43 : decode cX1_readId 43 = .ok (.getfield 24, 3) := by decide +kernel
theorem dX1_readId_46 : decode cX1_readId 46 = .ok (.iload_n 1, 1) := by decide +kernel
theorem dX1_readId_47 : decode cX1_readId 47 = .ok (.iload_n 3, 1) := by decide +kernel
theorem dX1_readId_48 : decode cX1_readId 48 = .ok (.invokevirtual 143, 3) := by decide +kernel
theorem dX1_readId_51 : decode cX1_readId 51 = .ok (.l2i, 1) := by decide +kernel
theorem dX1_readId_52 : decode cX1_readId 52 = .ok (.ireturn, 1) := by decide +kernel
set_option maxRecDepth 20000 in
theorem ggX1_sizeWidth_X8_at : GoodIn wsX1_sizeWidth wsX8_at := goodIn_r _ [6, 7, 8, 26, 27, 28, 29] (by decide +kernel) (by decide +kernel)
set_option maxRecDepth 20000 in
theorem gX1_sizeWidth_X8_at : GoodIn wsX1_sizeWidth (wsV RX1 105 RX8 yX8_at wsX8_at) := goodIn_app (goodIn_of _ (by decide +kernel)) ggX1_sizeWidth_X8_at
set_option maxRecDepth 20000 in
theorem ggX1_sizeWidth_X1_markedWidth : GoodIn wsX1_sizeWidth wsX1_markedWidth := goodIn_r _ [12] (by decide +kernel) (by decide +kernel)
set_option maxRecDepth 20000 in
theorem gX1_sizeWidth_X1_markedWidth : GoodIn wsX1_sizeWidth (va_wsS RX1 111 yX1_markedWidth wsX1_markedWidth) := goodIn_app (goodIn_of _ (by decide +kernel)) ggX1_sizeWidth_X1_markedWidth
theorem dX1_sizeWidth_0 : decode cX1_sizeWidth 0 = .ok (.iload_n 1, 1) := by decide +kernel
theorem dX1_sizeWidth_1 : decode cX1_sizeWidth 1 = .ok (.iload_n 2, 1) := by decide +kernel
theorem dX1_sizeWidth_2 : decode cX1_sizeWidth 2 = .ok (.if_icmp .lt 5, 3) := by decide +kernel
theorem dX1_sizeWidth_5 : decode cX1_sizeWidth 5 = .ok (.iconst (-1), 1) := by decide +kernel
theorem dX1_sizeWidth_6 : decode cX1_sizeWidth 6 = .ok (.ireturn, 1) := by decide +kernel
theorem dX1_sizeWidth_7 : decode cX1_sizeWidth 7 = .ok (.aload_n 0, 1) := by decide +kernel
theorem dX1_sizeWidth_8 : decode cX1_sizeWidth 8 = .ok (.getfield 24, 3) := by decide +kernel
theorem dX1_sizeWidth_11 : decode cX1_sizeWidth 11 = .ok (.iload_n 1, 1) := by decide +kernel
theorem dX1_sizeWidth_12 : decode cX1_sizeWidth 12 = .ok (.invokevirtual 105, 3) := by decide +kernel
theorem dX1_sizeWidth_15 : decode cX1_sizeWidth 15 = .ok (.invokestatic 111, 3) := by decide +kernel
theorem dX1_sizeWidth_18 : decode cX1_sizeWidth 18 = .ok (.istore_n 3, 1) := by decide +kernel
theorem dX1_sizeWidth_19 : decode cX1_sizeWidth 19 = .ok (.iload_n 3, 1) := by decide +kernel
theorem dX1_sizeWidth_20 : decode cX1_sizeWidth 20 = .ok (.iload_n 2, 1) := by decide +kernel
theorem dX1_sizeWidth_21 : decode cX1_sizeWidth 21 = .ok (.iload_n 1, 1) := by decide +kernel
theorem dX1_sizeWidth_22 : decode cX1_sizeWidth 22 = .ok (.isub, 1) := by decide +kernel
theorem dX1_sizeWidth_23 : decode cX1_sizeWidth 23 = .ok (.if_icmp .le 7, 3) := by decide +kernel
theorem dX1_sizeWidth_26 : decode cX1_sizeWidth 26 = .ok (.iconst (-1), 1) := by decide +kernel
theorem dX1_sizeWidth_27 : decode cX1_sizeWidth 27 = .ok (.goto 4, 3) := by decide +kernel
theorem dX1_sizeWidth_30 : decode cX1_sizeWidth 30 = .ok (.iload_n 3, 1) := by decide +kernel
theorem dX1_sizeWidth_31 : decode cX1_sizeWidth 31 = .ok (.ireturn, 1) := by decide +kernel
set_option maxRecDepth 20000 in
theorem ggX1_sizeNumber_X8_at : GoodIn wsX1_sizeNumber wsX8_at := goodIn_r _ [7, 8, 9, 28, 29, 30, 31] (by decide +kernel) (by decide +kernel)
set_option maxRecDepth 20000 in
theorem gX1_sizeNumber_X8_at : GoodIn wsX1_sizeNumber (wsV RX1 105 RX8 yX8_at wsX8_at) := goodIn_app (goodIn_of _ (by decide +kernel)) ggX1_sizeNumber_X8_at
set_option maxRecDepth 20000 in
theorem ggX1_sizeNumber_X0_highestSize : GoodIn wsX1_sizeNumber wsX0_highestSize := goodIn_r _ [13, 14] (by decide +kernel) (by decide +kernel)
set_option maxRecDepth 20000 in
theorem gX1_sizeNumber_X0_highestSize : GoodIn wsX1_sizeNumber (va_wsS RX1 146 yX0_highestSize wsX0_highestSize) := goodIn_app (goodIn_of _ (by decide +kernel)) ggX1_sizeNumber_X0_highestSize
theorem dX1_sizeNumber_0 : decode cX1_sizeNumber 0 = .ok (.aload_n 0, 1) := by decide +kernel
theorem dX1_sizeNumber_1 : decode cX1_sizeNumber 1 = .ok (.getfield 24, 3) := by decide +kernel
theorem dX1_sizeNumber_4 : decode cX1_sizeNumber 4 = .ok (.iload_n 1, 1) := by decide +kernel
theorem dX1_sizeNumber_5 : decode cX1_sizeNumber 5 = .ok (.invokevirtual 105, 3) := by decide +kernel
theorem dX1_sizeNumber_8 : decode cX1_sizeNumber 8 = .ok (.sipush 255, 3) := by decide +kernel
theorem dX1_sizeNumber_11 : decode cX1_sizeNumber 11 = .ok (.iload_n 2, 1) := by decide +kernel
theorem dX1_sizeNumber_12 : decode cX1_sizeNumber 12 = .ok (.ishr, 1) := by decide +kernel
theorem dX1_sizeNumber_13 : decode cX1_sizeNumber 13 = .ok (.iand, 1) := by decide +kernel
theorem dX1_sizeNumber_14 : decode cX1_sizeNumber 14 = .ok (.i2l, 1) := by decide +kernel
theorem dX1_sizeNumber_15 : decode cX1_sizeNumber 15 = .ok (.lstore_n 3, 1) := by decide +kernel
theorem dX1_sizeNumber_16 : decode cX1_sizeNumber 16 = .ok (.iconst 1, 1) := by decide +kernel
theorem dX1_sizeNumber_17 : decode cX1_sizeNumber 17 = .ok (.istore 5, 2) := by decide +kernel
theorem dX1_sizeNumber_19 : decode cX1_sizeNumber 19 = .ok (.iload 5, 2) := by decide +kernel
theorem dX1_sizeNumber_21 : decode cX1_sizeNumber 21 = .ok (.iload_n 2, 1) := by decide +kernel
theorem dX1_sizeNumber_22 : decode cX1_sizeNumber 22 = .ok (.if_icmp .ge 27, 3) := by decide +kernel
theorem dX1_sizeNumber_25 : decode cX1_sizeNumber 25 = .ok (.lload_n 3, 1) := by decide +kernel
theorem dX1_sizeNumber_26 : decode cX1_sizeNumber 26 = .ok (.bipush 8, 2) := by decide +kernel
theorem dX1_sizeNumber_28 : decode cX1_sizeNumber 28 = .ok (.lshl, 1) := by decide +kernel
theorem dX1_sizeNumber_29 : decode cX1_sizeNumber 29 = .ok (.aload_n 0, 1) := by decide +kernel
theorem dX1_sizeNumber_30 : decode cX1_sizeNumber 30 = .ok (.getfield 24, 3) := by decide +kernel
theorem dX1_sizeNumber_33 : decode cX1_sizeNumber 33 = .ok (.iload_n 1, 1) := by decide +kernel
theorem dX1_sizeNumber_34 : decode cX1_sizeNumber 34 = .ok (.iload 5, 2) := by decide +kernel
theorem dX1_sizeNumber_36 : decode cX1_sizeNumber 36 = .ok (.iadd, 1) := by decide +kernel
theorem dX1_sizeNumber_37 : decode cX1_sizeNumber 37 = .ok (.invokevirtual 105, 3) := by decide +kernel
theorem dX1_sizeNumber_40 : decode cX1_sizeNumber 40 = .ok (.i2l, 1) := by decide +kernel
theorem dX1_sizeNumber_41 : decode cX1_sizeNumber 41 = .ok (.lor, 1) := by decide +kernel
theorem dX1_sizeNumber_42 : decode cX1_sizeNumber 42 = .ok (.lstore_n 3, 1) := by decide +kernel
theorem dX1_sizeNumber_43 : decode cX1_sizeNumber 43 = .ok (.iinc 5 1, 3) := by decide +kernel
theorem dX1_sizeNumber_46 : decode cX1_sizeNumber 46 = .ok (.goto (-27), 3) := by decide +kernel
theorem dX1_sizeNumber_49 : decode cX1_sizeNumber 49 = .ok (.lload_n 3, 1) := by decide +kernel
theorem dX1_sizeNumber_50 : decode cX1_sizeNumber 50 = .ok (.iload_n 2, 1) := by decide +kernel
theorem dX1_sizeNumber_51 : decode cX1_sizeNumber 51 = .ok (.invokestatic 146, 3) := by decide +kernel
theorem dX1_sizeNumber_54 : decode cX1_sizeNumber 54 = .ok (.lcmp, 1) := by decide +kernel
theorem dX1_sizeNumber_55 : decode cX1_sizeNumber 55 = .ok (.ifCond .le 9, 3) := by decide +kernel
theorem dX1_sizeNumber_58 : decode cX1_sizeNumber 58 = .ok (.ldc2_w 45, 3) := by decide +kernel
theorem dX1_sizeNumber_61 : decode cX1_sizeNumber 61 = .ok (.goto 4, 3) := by decide +kernel
theorem dX1_sizeNumber_64 : decode cX1_sizeNumber 64 = .ok (.lload_n 3, 1) := by decide +kernel
theorem dX1_sizeNumber_65 : decode cX1_sizeNumber 65 = .ok (.lreturn, 1) := by decide +kernel
set_option maxRecDepth 20000 in
theorem ggX1_readSize_X1_sizeWidth : GoodIn wsX1_readSize wsX1_sizeWidth := goodIn_r _ [10, 11, 12, 13, 14, 15, 16, 17, 18, 19, 20, 9, 21, 37, 38, 39, 40, 41, 42, 43, 44, 45, 46, 47, 48, 49, 50, 51, 52, 53] (by decide +kernel) (by decide +kernel)
set_option maxRecDepth 20000 in
theorem gX1_readSize_X1_sizeWidth : GoodIn wsX1_readSize (wsV RX1 150 RX1 yX1_sizeWidth wsX1_sizeWidth) := goodIn_app (goodIn_of _ (by decide +kernel)) ggX1_readSize_X1_sizeWidth
set_option maxRecDepth 20000 in
theorem ggX1_readSize_X1_fail : GoodIn wsX1_readSize wsX1_fail := goodIn_r _ [25, 26, 27, 37, 38, 39, 40, 41, 42, 43, 44, 45, 46, 47, 48, 49] (by decide +kernel) (by decide +kernel)
set_option maxRecDepth 20000 in
theorem gX1_readSize_X1_fail : GoodIn wsX1_readSize (wsV RX1 71 RX1 yX1_fail wsX1_fail) := goodIn_app (goodIn_of _ (by decide +kernel)) ggX1_readSize_X1_fail
set_option maxRecDepth 20000 in
theorem ggX1_readSize_X1_sizeNumber : GoodIn wsX1_readSize wsX1_sizeNumber := goodIn_r _ [31, 11, 5, 12, 13, 14, 15, 16, 17, 18, 32, 33, 34, 35, 36, 37, 38, 39, 40, 41, 42, 43, 44, 45, 46, 47, 48, 49, 50, 51, 52, 53] (by decide +kernel) (by decide +kernel)
set_option maxRecDepth 20000 in
theorem gX1_readSize_X1_sizeNumber : GoodIn wsX1_readSize (wsV RX1 153 RX1 yX1_sizeNumber wsX1_sizeNumber) := goodIn_app (goodIn_of _ (by decide +kernel)) ggX1_readSize_X1_sizeNumber
theorem dX1_readSize_0 : decode cX1_readSize 0 = .ok (.aload_n 0, 1) := by decide +kernel
theorem dX1_readSize_1 : decode cX1_readSize 1 = .ok (.iload_n 2, 1) := by decide +kernel
theorem dX1_readSize_2 : decode cX1_readSize 2 = .ok (.iload_n 3, 1) := by decide +kernel
theorem dX1_readSize_3 : decode cX1_readSize 3 = .ok (.invokevirtual 150, 3) := by decide +kernel
theorem dX1_readSize_6 : decode cX1_readSize 6 = .ok (.istore 5, 2) := by decide +kernel
theorem dX1_readSize_8 : decode cX1_readSize 8 = .ok (.iload 5, 2) := by decide +kernel
theorem dX1_readSize_10 : decode cX1_readSize 10 = .ok (.iconst (-1), 1) := by decide +kernel
theorem dX1_readSize_11 : decode cX1_readSize 11 = .ok (.if_icmp .ne 10, 3) := by decide +kernel
theorem dX1_readSize_14 : decode cX1_readSize 14 = .ok (.aload_n 0, 1) := by decide +kernel
theorem dX1_readSize_15 : decode cX1_readSize 15 = .ok (.iconst 1, 1) := by decide +kernel
theorem dX1_readSize_16 : decode cX1_readSize 16 = .ok (.iload_n 1, 1) := by decide +kernel
theorem dX1_readSize_17 : decode cX1_readSize 17 = .ok (.invokevirtual 71, 3) := by decide +kernel
theorem dX1_readSize_20 : decode cX1_readSize 20 = .ok (.ireturn, 1) := by decide +kernel
theorem dX1_readSize_21 : decode cX1_readSize 21 = .ok (.iload 5, 2) := by decide +kernel
theorem dX1_readSize_23 : decode cX1_readSize 23 = .ok (.ifCond .ne 10, 3) := by decide +kernel
theorem dX1_readSize_26 : decode cX1_readSize 26 = .ok (.aload_n 0, 1) := by decide +kernel
theorem dX1_readSize_27 : decode cX1_readSize 27 = .ok (.iconst 3, 1) := by decide +kernel
theorem dX1_readSize_28 : decode cX1_readSize 28 = .ok (.iload_n 1, 1) := by decide +kernel
theorem dX1_readSize_29 : decode cX1_readSize 29 = .ok (.invokevirtual 71, 3) := by decide +kernel
theorem dX1_readSize_32 : decode cX1_readSize 32 = .ok (.ireturn, 1) := by decide +kernel
theorem dX1_readSize_33 : decode cX1_readSize 33 = .ok (.aload_n 0, 1) := by decide +kernel
theorem dX1_readSize_34 : decode cX1_readSize 34 = .ok (.aload_n 0, 1) := by decide +kernel
theorem dX1_readSize_35 : decode cX1_readSize 35 = .ok (.iload_n 2, 1) := by decide +kernel
theorem dX1_readSize_36 : decode cX1_readSize 36 = .ok (.iload 5, 2) := by decide +kernel
theorem dX1_readSize_38 : decode cX1_readSize 38 = .ok (.invokevirtual 153, 3) := by decide +kernel
theorem dX1_readSize_41 : decode cX1_readSize 41 = .ok (.putfield 89, 3) := by decide +kernel
theorem dX1_readSize_44 : decode cX1_readSize 44 = .ok (.iload 4, 2) := by decide +kernel
theorem dX1_readSize_46 : decode cX1_readSize 46 = .ok (.ldc 136, 2) := by decide +kernel
theorem dX1_readSize_48 : decode cX1_readSize 48 = .ok (.if_icmp .eq 10, 3) := by decide +kernel
theorem dX1_readSize_51 : decode cX1_readSize 51 = .ok (.iload 4, 2) := by decide +kernel
theorem dX1_readSize_53 : decode cX1_readSize 53 = .ok (.ldc 88, 2) := by decide +kernel
theorem dX1_readSize_55 : decode cX1_readSize 55 = .ok (.if_icmp .ne 7, 3) := by decide +kernel
theorem dX1_readSize_58 : decode cX1_readSize 58 = .ok (.iconst 1, 1) := by decide +kernel
theorem dX1_readSize_59 : decode cX1_readSize 59 = .ok (.goto 4, 3) := by decide +kernel
theorem dX1_readSize_62 : decode cX1_readSize 62 = .ok (.iconst 0, 1) := by decide +kernel
theorem dX1_readSize_63 : decode cX1_readSize 63 = .ok (.istore 6, 2) := by decide +kernel
theorem dX1_readSize_65 : decode cX1_readSize 65 = .ok (.aload_n 0, 1) := by decide +kernel
theorem dX1_readSize_66 : decode cX1_readSize 66 = .ok (.getfield 89, 3) := by decide +kernel
theorem dX1_readSize_69 : decode cX1_readSize 69 = .ok (.ldc2_w 156, 3) := by decide +kernel
theorem dX1_readSize_72 : decode cX1_readSize 72 = .ok (.lcmp, 1) := by decide +kernel
theorem dX1_readSize_73 : decode cX1_readSize 73 = .ok (.ifCond .gt 19, 3) := by decide +kernel
theorem dX1_readSize_76 : decode cX1_readSize 76 = .ok (.aload_n 0, 1) := by decide +kernel
theorem dX1_readSize_77 : decode cX1_readSize 77 = .ok (.getfield 89, 3) := by decide +kernel
theorem dX1_readSize_80 : decode cX1_readSize 80 = .ok (.ldc2_w 45, 3) := by decide +kernel
theorem dX1_readSize_83 : decode cX1_readSize 83 = .ok (.lcmp, 1) := by decide +kernel
theorem dX1_readSize_84 : decode cX1_readSize 84 = .ok (.ifCond .ne 15, 3) := by decide +kernel
theorem dX1_readSize_87 : decode cX1_readSize 87 = .ok (.iload 6, 2) := by decide +kernel
theorem dX1_readSize_89 : decode cX1_readSize 89 = .ok (.ifCond .ne 10, 3) := by decide +kernel
theorem dX1_readSize_92 : decode cX1_readSize 92 = .ok (.aload_n 0, 1) := by decide +kernel
theorem dX1_readSize_93 : decode cX1_readSize 93 = .ok (.iconst 3, 1) := by decide +kernel
theorem dX1_readSize_94 : decode cX1_readSize 94 = .ok (.iload_n 1, 1) := by decide +kernel
theorem dX1_readSize_95 : decode cX1_readSize 95 = .ok (.invokevirtual 71, 3) := by decide +kernel
theorem dX1_readSize_98 : decode cX1_readSize 98 = .ok (.ireturn, 1) := by decide +kernel
theorem dX1_readSize_99 : decode cX1_readSize 99 = .ok (.aload_n 0, 1) := by decide +kernel
theorem dX1_readSize_100 : decode cX1_readSize 100 = .ok (.getfield 89, 3) := by decide +kernel
theorem dX1_readSize_103 : decode cX1_readSize 103 = .ok (.iload_n 3, 1) := by decide +kernel
theorem dX1_readSize_104 : decode cX1_readSize 104 = .ok (.iload_n 2, 1) := by decide +kernel
theorem dX1_readSize_105 : decode cX1_readSize 105 = .ok (.isub, 1) := by decide +kernel
theorem dX1_readSize_106 : decode cX1_readSize 106 = .ok (.iload 5, 2) := by decide +kernel
theorem dX1_readSize_108 : decode cX1_readSize 108 = .ok (.isub, 1) := by decide +kernel
theorem dX1_readSize_109 : decode cX1_readSize 109 = .ok (.i2l, 1) := by decide +kernel
theorem dX1_readSize_110 : decode cX1_readSize 110 = .ok (.lcmp, 1) := by decide +kernel
theorem dX1_readSize_111 : decode cX1_readSize 111 = .ok (.ifCond .le 10, 3) := by decide +kernel
theorem dX1_readSize_114 : decode cX1_readSize 114 = .ok (.aload_n 0, 1) := by decide +kernel
theorem dX1_readSize_115 : decode cX1_readSize 115 = .ok (.iconst 1, 1) := by decide +kernel
theorem dX1_readSize_116 : decode cX1_readSize 116 = .ok (.iload_n 1, 1) := by decide +kernel
theorem dX1_readSize_117 : decode cX1_readSize 117 = .ok (.invokevirtual 71, 3) := by decide +kernel
theorem dX1_readSize_120 : decode cX1_readSize 120 = .ok (.ireturn, 1) := by decide +kernel
theorem dX1_readSize_121 : decode cX1_readSize 121 = .ok (.iload_n 2, 1) := by decide +kernel
theorem dX1_readSize_122 : decode cX1_readSize 122 = .ok (.iload 5, 2) := by decide +kernel
theorem dX1_readSize_124 : decode cX1_readSize 124 = .ok (.iadd, 1) := by decide +kernel
theorem dX1_readSize_125 : decode cX1_readSize 125 = .ok (.ireturn, 1) := by decide +kernel
set_option maxRecDepth 20000 in
theorem ggX1_readUint_X1_fail : GoodIn wsX1_readUint wsX1_fail := goodIn_r _ [10, 11, 12, 29, 30, 31, 32, 33, 34, 35, 36, 37, 38, 39, 40, 41] (by decide +kernel) (by decide +kernel)
set_option maxRecDepth 20000 in
theorem gX1_readUint_X1_fail : GoodIn wsX1_readUint (wsV RX1 71 RX1 yX1_fail wsX1_fail) := goodIn_app (goodIn_of _ (by decide +kernel)) ggX1_readUint_X1_fail
set_option maxRecDepth 20000 in
theorem ggX1_readUint_X8_highFirst : GoodIn wsX1_readUint wsX8_highFirst := goodIn_r _ [17, 18, 19, 20, 16, 21, 22, 23, 42, 43, 44, 45] (by decide +kernel) (by decide +kernel)
set_option maxRecDepth 20000 in
theorem gX1_readUint_X8_highFirst : GoodIn wsX1_readUint (wsV RX1 143 RX8 yX8_highFirst wsX8_highFirst) := goodIn_app (goodIn_of _ (by decide +kernel)) ggX1_readUint_X8_highFirst
set_option maxRecDepth 20000 in
theorem ggX1_readUint_X1_column : GoodIn wsX1_readUint wsX1_column := goodIn_r _ [26, 27, 28] (by decide +kernel) (by decide +kernel)
set_option maxRecDepth 20000 in
theorem gX1_readUint_X1_column : GoodIn wsX1_readUint (va_wsS RX1 117 yX1_column wsX1_column) := goodIn_app (goodIn_of _ (by decide +kernel)) ggX1_readUint_X1_column
theorem dX1_readUint_0 : decode cX1_readUint 0 = .ok (.iload 4, 2) := by decide +kernel
theorem dX1_readUint_2 : decode cX1_readUint 2 = .ok (.iload_n 3, 1) := by decide +kernel
theorem dX1_readUint_3 : decode cX1_readUint 3 = .ok (.isub, 1) := by decide +kernel
theorem dX1_readUint_4 : decode cX1_readUint 4 = .ok (.bipush 8, 2) := by decide +kernel
theorem dX1_readUint_6 : decode cX1_readUint 6 = .ok (.if_icmp .le 10, 3) := by decide +kernel
theorem dX1_readUint_9 : decode cX1_readUint 9 = .ok (.aload_n 0, 1) := by decide +kernel
theorem dX1_readUint_10 : decode cX1_readUint 10 = .ok (.iconst 5, 1) := by decide +kernel
theorem dX1_readUint_11 : decode cX1_readUint 11 = .ok (.iload_n 2, 1) := by decide +kernel
theorem dX1_readUint_12 : decode cX1_readUint 12 = .ok (.invokevirtual 71, 3) := by decide +kernel
theorem dX1_readUint_15 : decode cX1_readUint 15 = .ok (.ireturn, 1) := by decide +kernel
theorem dX1_readUint_16 : decode cX1_readUint 16 = .ok (.aload_n 0, 1) := by decide +kernel
theorem dX1_readUint_17 : decode cX1_readUint 17 = .ok (.getfield 24, 3) := by decide +kernel
theorem dX1_readUint_20 : decode cX1_readUint 20 = .ok (.iload_n 3, 1) := by decide +kernel
theorem dX1_readUint_21 : decode cX1_readUint 21 = .ok (.iload 4, 2) := by decide +kernel
theorem dX1_readUint_23 : decode cX1_readUint 23 = .ok (.iload_n 3, 1) := by decide +kernel
theorem dX1_readUint_24 : decode cX1_readUint 24 = .ok (.isub, 1) := by decide +kernel
theorem dX1_readUint_25 : decode cX1_readUint 25 = .ok (.invokevirtual 143, 3) := by decide +kernel
theorem dX1_readUint_28 : decode cX1_readUint 28 = .ok (.lstore 5, 2) := by decide +kernel
theorem dX1_readUint_30 : decode cX1_readUint 30 = .ok (.lload 5, 2) := by decide +kernel
theorem dX1_readUint_32 : decode cX1_readUint 32 = .ok (.iload_n 1, 1) := by decide +kernel
theorem dX1_readUint_33 : decode cX1_readUint 33 = .ok (.iconst 4, 1) := by decide +kernel
theorem dX1_readUint_34 : decode cX1_readUint 34 = .ok (.invokestatic 117, 3) := by decide +kernel
theorem dX1_readUint_37 : decode cX1_readUint 37 = .ok (.lcmp, 1) := by decide +kernel
theorem dX1_readUint_38 : decode cX1_readUint 38 = .ok (.ifCond .lt 14, 3) := by decide +kernel
theorem dX1_readUint_41 : decode cX1_readUint 41 = .ok (.lload 5, 2) := by decide +kernel
theorem dX1_readUint_43 : decode cX1_readUint 43 = .ok (.iload_n 1, 1) := by decide +kernel
theorem dX1_readUint_44 : decode cX1_readUint 44 = .ok (.iconst 5, 1) := by decide +kernel
theorem dX1_readUint_45 : decode cX1_readUint 45 = .ok (.invokestatic 117, 3) := by decide +kernel
theorem dX1_readUint_48 : decode cX1_readUint 48 = .ok (.lcmp, 1) := by decide +kernel
theorem dX1_readUint_49 : decode cX1_readUint 49 = .ok (.ifCond .le 10, 3) := by decide +kernel
theorem dX1_readUint_52 : decode cX1_readUint 52 = .ok (.aload_n 0, 1) := by decide +kernel
theorem dX1_readUint_53 : decode cX1_readUint 53 = .ok (.iconst 5, 1) := by decide +kernel
theorem dX1_readUint_54 : decode cX1_readUint 54 = .ok (.iload_n 2, 1) := by decide +kernel
theorem dX1_readUint_55 : decode cX1_readUint 55 = .ok (.invokevirtual 71, 3) := by decide +kernel
theorem dX1_readUint_58 : decode cX1_readUint 58 = .ok (.ireturn, 1) := by decide +kernel
theorem dX1_readUint_59 : decode cX1_readUint 59 = .ok (.iload_n 1, 1) := by decide +kernel
theorem dX1_readUint_60 : decode cX1_readUint 60 = .ok (.iconst 0, 1) := by decide +kernel
theorem dX1_readUint_61 : decode cX1_readUint 61 = .ok (.invokestatic 117, 3) := by decide +kernel
theorem dX1_readUint_64 : decode cX1_readUint 64 = .ok (.ldc2_w 158, 3) := by decide +kernel
theorem dX1_readUint_67 : decode cX1_readUint 67 = .ok (.lcmp, 1) := by decide +kernel
theorem dX1_readUint_68 : decode cX1_readUint 68 = .ok (.ifCond .ne 9, 3) := by decide +kernel
theorem dX1_readUint_71 : decode cX1_readUint 71 = .ok (.aload_n 0, 1) := by decide +kernel
theorem dX1_readUint_72 : decode cX1_readUint 72 = .ok (.lload 5, 2) := by decide +kernel
theorem dX1_readUint_74 : decode cX1_readUint 74 = .ok (.putfield 47, 3) := by decide +kernel
theorem dX1_readUint_77 : decode cX1_readUint 77 = .ok (.iload_n 1, 1) := by decide +kernel
theorem dX1_readUint_78 : decode cX1_readUint 78 = .ok (.iconst 0, 1) := by decide +kernel
theorem dX1_readUint_79 : decode cX1_readUint 79 = .ok (.invokestatic 117, 3) := by decide +kernel
theorem dX1_readUint_82 : decode cX1_readUint 82 = .ok (.ldc2_w 160, 3) := by decide +kernel
theorem dX1_readUint_85 : decode cX1_readUint 85 = .ok (.lcmp, 1) := by decide +kernel
theorem dX1_readUint_86 : decode cX1_readUint 86 = .ok (.ifCond .ne 9, 3) := by decide +kernel
theorem dX1_readUint_89 : decode cX1_readUint 89 = .ok (.aload_n 0, 1) := by decide +kernel
theorem dX1_readUint_90 : decode cX1_readUint 90 = .ok (.lload 5, 2) := by decide +kernel
theorem dX1_readUint_92 : decode cX1_readUint 92 = .ok (.putfield 51, 3) := by decide +kernel
theorem dX1_readUint_95 : decode cX1_readUint 95 = .ok (.iload 4, 2) := by decide +kernel
theorem dX1_readUint_97 : decode cX1_readUint 97 = .ok (.ireturn, 1) := by decide +kernel
set_option maxRecDepth 20000 in
theorem ggX1_isDocumentName_J0_length_8abf5 : GoodIn wsX1_isDocumentName wsJ0_length_8abf5 := goodIn_r _ [6, 7, 8, 9, 10, 5, 11, 12, 13] (by decide +kernel) (by decide +kernel)
set_option maxRecDepth 20000 in
theorem gX1_isDocumentName_J0_length_8abf5 : GoodIn wsX1_isDocumentName (wsV RX1 164 RJ0 yJ0_length_8abf5 wsJ0_length_8abf5) := goodIn_app (goodIn_of _ (by decide +kernel)) ggX1_isDocumentName_J0_length_8abf5
set_option maxRecDepth 20000 in
theorem ggX1_isDocumentName_X8_at : GoodIn wsX1_isDocumentName wsX8_at := goodIn_r _ [18, 19, 20, 71, 72, 73, 74] (by decide +kernel) (by decide +kernel)
set_option maxRecDepth 20000 in
theorem gX1_isDocumentName_X8_at : GoodIn wsX1_isDocumentName (wsV RX1 105 RX8 yX8_at wsX8_at) := goodIn_app (goodIn_of _ (by decide +kernel)) ggX1_isDocumentName_X8_at
set_option maxRecDepth 20000 in
theorem ggX1_isDocumentName_J0_charAt_5068e : GoodIn wsX1_isDocumentName wsJ0_charAt_5068e := goodIn_r _ [24, 7, 25, 26, 27, 5, 28, 12, 13, 29, 30, 31, 32, 33, 34, 35, 36, 37, 38, 39, 40, 41, 42, 43, 44, 45, 46, 47, 48, 49, 50, 51, 52, 53, 54, 55, 56, 57] (by decide +kernel) (by decide +kernel)
set_option maxRecDepth 20000 in
theorem gX1_isDocumentName_J0_charAt_5068e : GoodIn wsX1_isDocumentName (wsV RX1 170 RJ0 yJ0_charAt_5068e wsJ0_charAt_5068e) := goodIn_app (goodIn_of _ (by decide +kernel)) ggX1_isDocumentName_J0_charAt_5068e
theorem dX1_isDocumentName_0 : decode cX1_isDocumentName 0 = .ok (.iload_n 2, 1) := by decide +kernel
theorem dX1_isDocumentName_1 : decode cX1_isDocumentName 1 = .ok (.iload_n 1, 1) := by decide +kernel
theorem dX1_isDocumentName_2 : decode cX1_isDocumentName 2 = .ok (.isub, 1) := by decide +kernel
theorem dX1_isDocumentName_3 : decode cX1_isDocumentName 3 = .ok (.ldc 162, 2) := by decide +kernel
theorem dX1_isDocumentName_5 : decode cX1_isDocumentName 5 = .ok (.invokevirtual 164, 3) := by decide +kernel
theorem dX1_isDocumentName_8 : decode cX1_isDocumentName 8 = .ok (.if_icmp .eq 5, 3) := by decide +kernel
theorem dX1_isDocumentName_11 : decode cX1_isDocumentName 11 = .ok (.iconst 0, 1) := by decide +kernel
theorem dX1_isDocumentName_12 : decode cX1_isDocumentName 12 = .ok (.ireturn, 1) := by decide +kernel
theorem dX1_isDocumentName_13 : decode cX1_isDocumentName 13 = .ok (.iconst 0, 1) := by decide +kernel
theorem dX1_isDocumentName_14 : decode cX1_isDocumentName 14 = .ok (.istore_n 3, 1) := by decide +kernel
theorem dX1_isDocumentName_15 : decode cX1_isDocumentName 15 = .ok (.iload_n 3, 1) := by decide +kernel
theorem dX1_isDocumentName_16 : decode cX1_isDocumentName 16 = .ok (.ldc 162, 2) := by decide +kernel
theorem dX1_isDocumentName_18 : decode cX1_isDocumentName 18 = .ok (.invokevirtual 164, 3) := by decide +kernel
theorem dX1_isDocumentName_21 : decode cX1_isDocumentName 21 = .ok (.if_icmp .ge 30, 3) := by decide +kernel
theorem dX1_isDocumentName_24 : decode cX1_isDocumentName 24 = .ok (.aload_n 0, 1) := by decide +kernel
theorem dX1_isDocumentName_25 : decode cX1_isDocumentName 25 = .ok (.getfield 24, 3) := by decide +kernel
theorem dX1_isDocumentName_28 : decode cX1_isDocumentName 28 = .ok (.iload_n 1, 1) := by decide +kernel
theorem dX1_isDocumentName_29 : decode cX1_isDocumentName 29 = .ok (.iload_n 3, 1) := by decide +kernel
theorem dX1_isDocumentName_30 : decode cX1_isDocumentName 30 = .ok (.iadd, 1) := by decide +kernel
theorem dX1_isDocumentName_31 : decode cX1_isDocumentName 31 = .ok (.invokevirtual 105, 3) := by decide +kernel
theorem dX1_isDocumentName_34 : decode cX1_isDocumentName 34 = .ok (.ldc 162, 2) := by decide +kernel
theorem dX1_isDocumentName_36 : decode cX1_isDocumentName 36 = .ok (.iload_n 3, 1) := by decide +kernel
theorem dX1_isDocumentName_37 : decode cX1_isDocumentName 37 = .ok (.invokevirtual 170, 3) := by decide +kernel
theorem dX1_isDocumentName_40 : decode cX1_isDocumentName 40 = .ok (.if_icmp .eq 5, 3) := by decide +kernel
theorem dX1_isDocumentName_43 : decode cX1_isDocumentName 43 = .ok (.iconst 0, 1) := by decide +kernel
theorem dX1_isDocumentName_44 : decode cX1_isDocumentName 44 = .ok (.ireturn, 1) := by decide +kernel
theorem dX1_isDocumentName_45 : decode cX1_isDocumentName 45 = .ok (.iinc 3 1, 3) := by decide +kernel
theorem dX1_isDocumentName_48 : decode cX1_isDocumentName 48 = .ok (.goto (-33), 3) := by decide +kernel
theorem dX1_isDocumentName_51 : decode cX1_isDocumentName 51 = .ok (.iconst 1, 1) := by decide +kernel
theorem dX1_isDocumentName_52 : decode cX1_isDocumentName 52 = .ok (.ireturn, 1) := by decide +kernel
set_option maxRecDepth 20000 in
theorem ggX1_readBlock_X1_fail : GoodIn wsX1_readBlock wsX1_fail := goodIn_r _ [13, 14, 15, 97, 98, 99, 100, 101, 102, 103, 104, 105, 106, 107, 108, 109] (by decide +kernel) (by decide +kernel)
set_option maxRecDepth 20000 in
theorem gX1_readBlock_X1_fail : GoodIn wsX1_readBlock (wsV RX1 71 RX1 yX1_fail wsX1_fail) := goodIn_app (goodIn_of _ (by decide +kernel)) ggX1_readBlock_X1_fail
set_option maxRecDepth 20000 in
theorem ggX1_readBlock_X1_sizeWidth : GoodIn wsX1_readBlock wsX1_sizeWidth := goodIn_r _ [19, 4, 20, 21, 22, 23, 24, 25, 26, 27, 28, 12, 29, 97, 98, 99, 100, 101, 102, 103, 104, 105, 106, 107, 108, 109, 110, 111, 112, 113] (by decide +kernel) (by decide +kernel)
set_option maxRecDepth 20000 in
theorem gX1_readBlock_X1_sizeWidth : GoodIn wsX1_readBlock (wsV RX1 150 RX1 yX1_sizeWidth wsX1_sizeWidth) := goodIn_app (goodIn_of _ (by decide +kernel)) ggX1_readBlock_X1_sizeWidth
set_option maxRecDepth 20000 in
theorem ggX1_readBlock_X1_sizeNumber : GoodIn wsX1_readBlock wsX1_sizeNumber := goodIn_r _ [33, 4, 2, 20, 21, 22, 23, 24, 25, 26, 34, 35, 36, 37, 38, 97, 98, 99, 100, 101, 102, 103, 104, 105, 106, 107, 108, 109, 110, 111, 112, 113] (by decide +kernel) (by decide +kernel)
set_option maxRecDepth 20000 in
theorem gX1_readBlock_X1_sizeNumber : GoodIn wsX1_readBlock (wsV RX1 153 RX1 yX1_sizeNumber wsX1_sizeNumber) := goodIn_app (goodIn_of _ (by decide +kernel)) ggX1_readBlock_X1_sizeNumber
set_option maxRecDepth 20000 in
theorem ggX1_readBlock_X8_highFirst : GoodIn wsX1_readBlock wsX8_highFirst := goodIn_r _ [42, 43, 21, 22, 23, 24, 25, 26, 110, 111, 112, 113] (by decide +kernel) (by decide +kernel)
set_option maxRecDepth 20000 in
theorem gX1_readBlock_X8_highFirst : GoodIn wsX1_readBlock (wsV RX1 143 RX8 yX8_highFirst wsX8_highFirst) := goodIn_app (goodIn_of _ (by decide +kernel)) ggX1_readBlock_X8_highFirst
set_option maxRecDepth 20000 in
theorem ggX1_readBlock_X8_at : GoodIn wsX1_readBlock wsX8_at := goodIn_r _ [24, 25, 26, 110, 111, 112, 113] (by decide +kernel) (by decide +kernel)
set_option maxRecDepth 20000 in
theorem gX1_readBlock_X8_at : GoodIn wsX1_readBlock (wsV RX1 105 RX8 yX8_at wsX8_at) := goodIn_app (goodIn_of _ (by decide +kernel)) ggX1_readBlock_X8_at
set_option maxRecDepth 20000 in
theorem ggX1_readBlock_X1_readLacing : GoodIn wsX1_readBlock wsX1_readLacing := goodIn_r _ [47, 7, 48, 4, 20, 21, 22, 23, 24, 25, 26, 49, 50, 51, 12, 52, 53, 54, 55, 56, 2, 57, 58, 59, 60, 16, 17, 18, 19, 27, 28, 29, 30, 31, 32, 33, 34, 35, 36, 37, 38, 61, 62, 63, 97, 98, 99, 100, 101, 102, 103, 104, 105, 106, 107, 108, 109, 110, 111, 112, 113] (by decide +kernel) (by decide +kernel)
set_option maxRecDepth 20000 in
theorem gX1_readBlock_X1_readLacing : GoodIn wsX1_readBlock (wsV RX1 176 RX1 yX1_readLacing wsX1_readLacing) := goodIn_app (goodIn_of _ (by decide +kernel)) ggX1_readBlock_X1_readLacing
set_option maxRecDepth 20000 in
theorem ggX1_readBlock_X4_hasRoom : GoodIn wsX1_readBlock wsX4_hasRoom := goodIn_r _ [68, 69, 70, 71, 114, 115, 116, 117, 110, 111, 112, 113] (by decide +kernel) (by decide +kernel)
set_option maxRecDepth 20000 in
theorem gX1_readBlock_X4_hasRoom : GoodIn wsX1_readBlock (wsV RX1 183 RX4 yX4_hasRoom wsX4_hasRoom) := goodIn_app (goodIn_of _ (by decide +kernel)) ggX1_readBlock_X4_hasRoom
set_option maxRecDepth 20000 in
theorem ggX1_readBlock_X1_takePackets : GoodIn wsX1_readBlock wsX1_takePackets := goodIn_r _ [75, 7, 48, 6, 76, 4, 2, 77, 78, 79, 23, 80, 43, 21, 22, 24, 25, 26, 81, 82, 83, 84, 85, 86, 87, 88, 89, 90, 91, 92, 93, 67, 94, 69, 95, 70, 71, 96, 97, 98, 99, 100, 101, 102, 103, 104, 105, 106, 107, 108, 109, 114, 115, 116, 117, 110, 111, 112, 113] (by decide +kernel) (by decide +kernel)
set_option maxRecDepth 20000 in
theorem gX1_readBlock_X1_takePackets : GoodIn wsX1_readBlock (wsV RX1 188 RX1 yX1_takePackets wsX1_takePackets) := goodIn_app (goodIn_of _ (by decide +kernel)) ggX1_readBlock_X1_takePackets
theorem dX1_readBlock_0 : decode cX1_readBlock 0 = .ok (.aload_n 0, 1) := by decide +kernel
theorem dX1_readBlock_1 : decode cX1_readBlock 1 = .ok (.getfield 51, 3) := by decide +kernel
theorem dX1_readBlock_4 : decode cX1_readBlock 4 = .ok (.ldc2_w 45, 3) := by decide +kernel
theorem dX1_readBlock_7 : decode cX1_readBlock 7 = .ok (.lcmp, 1) := by decide +kernel
theorem dX1_readBlock_8 : decode cX1_readBlock 8 = .ok (.ifCond .ne 11, 3) := by decide +kernel
theorem dX1_readBlock_11 : decode cX1_readBlock 11 = .ok (.aload_n 0, 1) := by decide +kernel
theorem dX1_readBlock_12 : decode cX1_readBlock 12 = .ok (.bipush 7, 2) := by decide +kernel
theorem dX1_readBlock_14 : decode cX1_readBlock 14 = .ok (.iload_n 2, 1) := by decide +kernel
theorem dX1_readBlock_15 : decode cX1_readBlock 15 = .ok (.invokevirtual 71, 3) := by decide +kernel
theorem dX1_readBlock_18 : decode cX1_readBlock 18 = .ok (.ireturn, 1) := by decide +kernel
theorem dX1_readBlock_19 : decode cX1_readBlock 19 = .ok (.aload_n 0, 1) := by decide +kernel
theorem dX1_readBlock_20 : decode cX1_readBlock 20 = .ok (.iload_n 3, 1) := by decide +kernel
theorem dX1_readBlock_21 : decode cX1_readBlock 21 = .ok (.iload 4, 2) := by decide +kernel
theorem dX1_readBlock_23 : decode cX1_readBlock 23 = .ok (.invokevirtual 150, 3) := by decide +kernel
theorem dX1_readBlock_26 : decode cX1_readBlock 26 = .ok (.istore 5, 2) := by decide +kernel
theorem dX1_readBlock_28 : decode cX1_readBlock 28 = .ok (.iload 5, 2) := by decide +kernel
theorem dX1_readBlock_30 : decode cX1_readBlock 30 = .ok (.iconst 1, 1) := by decide +kernel
theorem dX1_readBlock_31 : decode cX1_readBlock 31 = .ok (.if_icmp .lt 29, 3) := by decide +kernel
theorem dX1_readBlock_34 : decode cX1_readBlock 34 = .ok (.aload_n 0, 1) := by decide +kernel
theorem dX1_readBlock_35 : decode cX1_readBlock 35 = .ok (.iload_n 3, 1) := by decide +kernel
theorem dX1_readBlock_36 : decode cX1_readBlock 36 = .ok (.iload 5, 2) := by decide +kernel
theorem dX1_readBlock_38 : decode cX1_readBlock 38 = .ok (.invokevirtual 153, 3) := by decide +kernel
theorem dX1_readBlock_41 : decode cX1_readBlock 41 = .ok (.aload_n 0, 1) := by decide +kernel
theorem dX1_readBlock_42 : decode cX1_readBlock 42 = .ok (.getfield 47, 3) := by decide +kernel
theorem dX1_readBlock_45 : decode cX1_readBlock 45 = .ok (.lcmp, 1) := by decide +kernel
theorem dX1_readBlock_46 : decode cX1_readBlock 46 = .ok (.ifCond .ne 14, 3) := by decide +kernel
theorem dX1_readBlock_49 : decode cX1_readBlock 49 = .ok (.iload 4, 2) := by decide +kernel
theorem dX1_readBlock_51 : decode cX1_readBlock 51 = .ok (.iload_n 3, 1) := by decide +kernel
theorem dX1_readBlock_52 : decode cX1_readBlock 52 = .ok (.isub, 1) := by decide +kernel
theorem dX1_readBlock_53 : decode cX1_readBlock 53 = .ok (.iload 5, 2) := by decide +kernel
theorem dX1_readBlock_55 : decode cX1_readBlock 55 = .ok (.isub, 1) := by decide +kernel
theorem dX1_readBlock_56 : decode cX1_readBlock 56 = .ok (.iconst 3, 1) := by decide +kernel
theorem dX1_readBlock_57 : decode cX1_readBlock 57 = .ok (.if_icmp .ge 10, 3) := by decide +kernel
theorem dX1_readBlock_60 : decode cX1_readBlock 60 = .ok (.aload_n 0, 1) := by decide +kernel
theorem dX1_readBlock_61 : decode cX1_readBlock 61 = .ok (.iconst 5, 1) := by decide +kernel
theorem dX1_readBlock_62 : decode cX1_readBlock 62 = .ok (.iload_n 2, 1) := by decide +kernel
theorem dX1_readBlock_63 : decode cX1_readBlock 63 = .ok (.invokevirtual 71, 3) := by decide +kernel
theorem dX1_readBlock_66 : decode cX1_readBlock 66 = .ok (.ireturn, 1) := by decide +kernel
theorem dX1_readBlock_67 : decode cX1_readBlock 67 = .ok (.aload_n 0, 1) := by decide +kernel
theorem dX1_readBlock_68 : decode cX1_readBlock 68 = .ok (.getfield 51, 3) := by decide +kernel
theorem dX1_readBlock_71 : decode cX1_readBlock 71 = .ok (.aload_n 0, 1) := by decide +kernel
theorem dX1_readBlock_72 : decode cX1_readBlock 72 = .ok (.getfield 24, 3) := by decide +kernel
theorem dX1_readBlock_75 : decode cX1_readBlock 75 = .ok (.iload_n 3, 1) := by decide +kernel
theorem dX1_readBlock_76 : decode cX1_readBlock 76 = .ok (.iload 5, 2) := by decide +kernel
theorem dX1_readBlock_78 : decode cX1_readBlock 78 = .ok (.iadd, 1) := by decide +kernel
theorem dX1_readBlock_79 : decode cX1_readBlock 79 = .ok (.iconst 2, 1) := by decide +kernel
theorem dX1_readBlock_80 : decode cX1_readBlock 80 = .ok (.invokevirtual 143, 3) := by decide +kernel
theorem dX1_readBlock_83 : decode cX1_readBlock 83 = .ok (.l2i, 1) := by decide +kernel
theorem dX1_readBlock_84 : decode cX1_readBlock 84 = .ok (.i2s, 1) := by decide +kernel
theorem dX1_readBlock_85 : decode cX1_readBlock 85 = .ok (.i2l, 1) := by decide +kernel
theorem dX1_readBlock_86 : decode cX1_readBlock 86 = .ok (.ladd, 1) := by decide +kernel
theorem dX1_readBlock_87 : decode cX1_readBlock 87 = .ok (.lstore 6, 2) := by decide +kernel
theorem dX1_readBlock_89 : decode cX1_readBlock 89 = .ok (.aload_n 0, 1) := by decide +kernel
theorem dX1_readBlock_90 : decode cX1_readBlock 90 = .ok (.getfield 24, 3) := by decide +kernel
theorem dX1_readBlock_93 : decode cX1_readBlock 93 = .ok (.iload_n 3, 1) := by decide +kernel
theorem dX1_readBlock_94 : decode cX1_readBlock 94 = .ok (.iload 5, 2) := by decide +kernel
theorem dX1_readBlock_96 : decode cX1_readBlock 96 = .ok (.iadd, 1) := by decide +kernel
theorem dX1_readBlock_97 : decode cX1_readBlock 97 = .ok (.iconst 2, 1) := by decide +kernel
theorem dX1_readBlock_98 : decode cX1_readBlock 98 = .ok (.iadd, 1) := by decide +kernel
theorem dX1_readBlock_99 : decode cX1_readBlock 99 = .ok (.invokevirtual 105, 3) := by decide +kernel
theorem dX1_readBlock_102 : decode cX1_readBlock 102 = .ok (.istore 8, 2) := by decide +kernel
theorem dX1_readBlock_104 : decode cX1_readBlock 104 = .ok (.iload_n 1, 1) := by decide +kernel
theorem dX1_readBlock_105 : decode cX1_readBlock 105 = .ok (.sipush 163, 3) := by decide +kernel
theorem dX1_readBlock_108 : decode cX1_readBlock 108 = .ok (.if_icmp .ne 9, 3) := by decide +kernel
theorem dX1_readBlock_111 : decode cX1_readBlock 111 = .ok (.sipush 143, 3) := by decide +kernel
theorem dX1_readBlock_114 : decode cX1_readBlock 114 = .ok (.goto 5, 3) := by decide +kernel
theorem dX1_readBlock_117 : decode cX1_readBlock 117 = .ok (.bipush 14, 2) := by decide +kernel
theorem dX1_readBlock_119 : decode cX1_readBlock 119 = .ok (.istore 9, 2) := by decide +kernel
theorem dX1_readBlock_121 : decode cX1_readBlock 121 = .ok (.lload 6, 2) := by decide +kernel
theorem dX1_readBlock_123 : decode cX1_readBlock 123 = .ok (.lconst 0, 1) := by decide +kernel
theorem dX1_readBlock_124 : decode cX1_readBlock 124 = .ok (.lcmp, 1) := by decide +kernel
theorem dX1_readBlock_125 : decode cX1_readBlock 125 = .ok (.ifCond .lt 22, 3) := by decide +kernel
theorem dX1_readBlock_128 : decode cX1_readBlock 128 = .ok (.lload 6, 2) := by decide +kernel
theorem dX1_readBlock_130 : decode cX1_readBlock 130 = .ok (.ldc2_w 174, 3) := by decide +kernel
theorem dX1_readBlock_133 : decode cX1_readBlock 133 = .ok (.lcmp, 1) := by decide +kernel
theorem dX1_readBlock_134 : decode cX1_readBlock 134 = .ok (.ifCond .gt 13, 3) := by decide +kernel
theorem dX1_readBlock_137 : decode cX1_readBlock 137 = .ok (.iload 8, 2) := by decide +kernel
theorem dX1_readBlock_139 : decode cX1_readBlock 139 = .ok (.iload 9, 2) := by decide +kernel
theorem dX1_readBlock_141 : decode cX1_readBlock 141 = .ok (.iconst (-1), 1) := by decide +kernel
theorem dX1_readBlock_142 : decode cX1_readBlock 142 = .ok (.ixor, 1) := by decide +kernel
theorem dX1_readBlock_143 : decode cX1_readBlock 143 = .ok (.iand, 1) := by decide +kernel
theorem dX1_readBlock_144 : decode cX1_readBlock 144 = .ok (.ifCond .eq 10, 3) := by decide +kernel
theorem dX1_readBlock_147 : decode cX1_readBlock 147 = .ok (.aload_n 0, 1) := by decide +kernel
theorem dX1_readBlock_148 : decode cX1_readBlock 148 = .ok (.iconst 5, 1) := by decide +kernel
theorem dX1_readBlock_149 : decode cX1_readBlock 149 = .ok (.iload_n 2, 1) := by decide +kernel
theorem dX1_readBlock_150 : decode cX1_readBlock 150 = .ok (.invokevirtual 71, 3) := by decide +kernel
theorem dX1_readBlock_153 : decode cX1_readBlock 153 = .ok (.ireturn, 1) := by decide +kernel
theorem dX1_readBlock_154 : decode cX1_readBlock 154 = .ok (.aload_n 0, 1) := by decide +kernel
theorem dX1_readBlock_155 : decode cX1_readBlock 155 = .ok (.iload 8, 2) := by decide +kernel
theorem dX1_readBlock_157 : decode cX1_readBlock 157 = .ok (.iconst 1, 1) := by decide +kernel
theorem dX1_readBlock_158 : decode cX1_readBlock 158 = .ok (.ishr, 1) := by decide +kernel
theorem dX1_readBlock_159 : decode cX1_readBlock 159 = .ok (.iconst 3, 1) := by decide +kernel
theorem dX1_readBlock_160 : decode cX1_readBlock 160 = .ok (.iand, 1) := by decide +kernel
theorem dX1_readBlock_161 : decode cX1_readBlock 161 = .ok (.iload_n 3, 1) := by decide +kernel
theorem dX1_readBlock_162 : decode cX1_readBlock 162 = .ok (.iload 5, 2) := by decide +kernel
theorem dX1_readBlock_164 : decode cX1_readBlock 164 = .ok (.iadd, 1) := by decide +kernel
theorem dX1_readBlock_165 : decode cX1_readBlock 165 = .ok (.iconst 3, 1) := by decide +kernel
theorem dX1_readBlock_166 : decode cX1_readBlock 166 = .ok (.iadd, 1) := by decide +kernel
theorem dX1_readBlock_167 : decode cX1_readBlock 167 = .ok (.iload 4, 2) := by decide +kernel
theorem dX1_readBlock_169 : decode cX1_readBlock 169 = .ok (.invokevirtual 176, 3) := by decide +kernel
theorem dX1_readBlock_172 : decode cX1_readBlock 172 = .ok (.istore 10, 2) := by decide +kernel
theorem dX1_readBlock_174 : decode cX1_readBlock 174 = .ok (.iload 10, 2) := by decide +kernel
theorem dX1_readBlock_176 : decode cX1_readBlock 176 = .ok (.iconst (-1), 1) := by decide +kernel
theorem dX1_readBlock_177 : decode cX1_readBlock 177 = .ok (.if_icmp .ne 10, 3) := by decide +kernel
theorem dX1_readBlock_180 : decode cX1_readBlock 180 = .ok (.aload_n 0, 1) := by decide +kernel
theorem dX1_readBlock_181 : decode cX1_readBlock 181 = .ok (.iconst 5, 1) := by decide +kernel
theorem dX1_readBlock_182 : decode cX1_readBlock 182 = .ok (.iload_n 2, 1) := by decide +kernel
theorem dX1_readBlock_183 : decode cX1_readBlock 183 = .ok (.invokevirtual 71, 3) := by decide +kernel
theorem dX1_readBlock_186 : decode cX1_readBlock 186 = .ok (.ireturn, 1) := by decide +kernel
theorem dX1_readBlock_187 : decode cX1_readBlock 187 = .ok (.aload_n 0, 1) := by decide +kernel
theorem dX1_readBlock_188 : decode cX1_readBlock 188 = .ok (.getfield 28, 3) := by decide +kernel
theorem dX1_readBlock_191 : decode cX1_readBlock 191 = .ok (.iload 10, 2) := by decide +kernel
theorem dX1_readBlock_193 : decode cX1_readBlock 193 = .ok (.iload 4, 2) := by decide +kernel
theorem dX1_readBlock_195 : decode cX1_readBlock 195 = .ok (.aload_n 0, 1) := by decide +kernel
theorem dX1_readBlock_196 : decode cX1_readBlock 196 = .ok (.getfield 180, 3) := by decide +kernel
theorem dX1_readBlock_199 : decode cX1_readBlock 199 = .ok (.isub, 1) := by decide +kernel
theorem dX1_readBlock_200 : decode cX1_readBlock 200 = .ok (.invokevirtual 183, 3) := by decide +kernel
theorem dX1_readBlock_203 : decode cX1_readBlock 203 = .ok (.ifCond .ne 11, 3) := by decide +kernel
theorem dX1_readBlock_206 : decode cX1_readBlock 206 = .ok (.aload_n 0, 1) := by decide +kernel
theorem dX1_readBlock_207 : decode cX1_readBlock 207 = .ok (.bipush 6, 2) := by decide +kernel
theorem dX1_readBlock_209 : decode cX1_readBlock 209 = .ok (.iload_n 2, 1) := by decide +kernel
theorem dX1_readBlock_210 : decode cX1_readBlock 210 = .ok (.invokevirtual 71, 3) := by decide +kernel
theorem dX1_readBlock_213 : decode cX1_readBlock 213 = .ok (.ireturn, 1) := by decide +kernel
theorem dX1_readBlock_214 : decode cX1_readBlock 214 = .ok (.aload_n 0, 1) := by decide +kernel
theorem dX1_readBlock_215 : decode cX1_readBlock 215 = .ok (.iload 10, 2) := by decide +kernel
theorem dX1_readBlock_217 : decode cX1_readBlock 217 = .ok (.lload 6, 2) := by decide +kernel
theorem dX1_readBlock_219 : decode cX1_readBlock 219 = .ok (.invokevirtual 188, 3) := by decide +kernel
theorem dX1_readBlock_222 : decode cX1_readBlock 222 = .ok (.aload_n 0, 1) := by decide +kernel
theorem dX1_readBlock_223 : decode cX1_readBlock 223 = .ok (.dup, 1) := by decide +kernel
theorem dX1_readBlock_224 : decode cX1_readBlock 224 = .ok (.getfield 42, 3) := by decide +kernel
theorem dX1_readBlock_227 : decode cX1_readBlock 227 = .ok (.iconst 1, 1) := by decide +kernel
theorem dX1_readBlock_228 : decode cX1_readBlock 228 = .ok (.iadd, 1) := by decide +kernel
theorem dX1_readBlock_229 : decode cX1_readBlock 229 = .ok (.putfield 42, 3) := by decide +kernel
theorem dX1_readBlock_232 : decode cX1_readBlock 232 = .ok (.iload 4, 2) := by decide +kernel
theorem dX1_readBlock_234 : decode cX1_readBlock 234 = .ok (.ireturn, 1) := by decide +kernel
set_option maxRecDepth 20000 in
theorem ggX1_takePackets_X8_addPart : GoodIn wsX1_takePackets wsX8_addPart := goodIn_r _ [11, 12, 13, 14, 10, 15, 16, 17, 18, 19, 20, 21, 22, 23, 24, 25, 26, 27, 55, 56, 57, 58] (by decide +kernel) (by decide +kernel)
set_option maxRecDepth 20000 in
theorem gX1_takePackets_X8_addPart : GoodIn wsX1_takePackets (wsV RX1 195 RX8 yX8_addPart wsX8_addPart) := goodIn_app (goodIn_of _ (by decide +kernel)) ggX1_takePackets_X8_addPart
set_option maxRecDepth 20000 in
theorem ggX1_takePackets_X4_endPacket : GoodIn wsX1_takePackets wsX4_endPacket := goodIn_r _ [32, 33, 34, 35, 36, 37, 51, 52, 53, 54, 55, 56, 57, 58] (by decide +kernel) (by decide +kernel)
set_option maxRecDepth 20000 in
theorem gX1_takePackets_X4_endPacket : GoodIn wsX1_takePackets (wsV RX1 199 RX4 yX4_endPacket wsX4_endPacket) := goodIn_app (goodIn_of _ (by decide +kernel)) ggX1_takePackets_X4_endPacket
theorem dX1_takePackets_0 : decode cX1_takePackets 0 = .ok (.aload_n 0, 1) := by decide +kernel
theorem dX1_takePackets_1 : decode cX1_takePackets 1 = .ok (.getfield 180, 3) := by decide +kernel
theorem dX1_takePackets_4 : decode cX1_takePackets 4 = .ok (.istore 4, 2) := by decide +kernel
theorem dX1_takePackets_6 : decode cX1_takePackets 6 = .ok (.iconst 0, 1) := by decide +kernel
theorem dX1_takePackets_7 : decode cX1_takePackets 7 = .ok (.istore 5, 2) := by decide +kernel
theorem dX1_takePackets_9 : decode cX1_takePackets 9 = .ok (.iload 5, 2) := by decide +kernel
theorem dX1_takePackets_11 : decode cX1_takePackets 11 = .ok (.iload_n 1, 1) := by decide +kernel
theorem dX1_takePackets_12 : decode cX1_takePackets 12 = .ok (.if_icmp .ge 73, 3) := by decide +kernel
theorem dX1_takePackets_15 : decode cX1_takePackets 15 = .ok (.iload 5, 2) := by decide +kernel
theorem dX1_takePackets_17 : decode cX1_takePackets 17 = .ok (.aload_n 0, 1) := by decide +kernel
theorem dX1_takePackets_18 : decode cX1_takePackets 18 = .ok (.getfield 13, 3) := by decide +kernel
theorem dX1_takePackets_21 : decode cX1_takePackets 21 = .ok (.arraylength, 1) := by decide +kernel
theorem dX1_takePackets_22 : decode cX1_takePackets 22 = .ok (.if_icmp .ge 63, 3) := by decide +kernel
theorem dX1_takePackets_25 : decode cX1_takePackets 25 = .ok (.aload_n 0, 1) := by decide +kernel
theorem dX1_takePackets_26 : decode cX1_takePackets 26 = .ok (.getfield 28, 3) := by decide +kernel
theorem dX1_takePackets_29 : decode cX1_takePackets 29 = .ok (.getfield 192, 3) := by decide +kernel
theorem dX1_takePackets_32 : decode cX1_takePackets 32 = .ok (.aload_n 0, 1) := by decide +kernel
theorem dX1_takePackets_33 : decode cX1_takePackets 33 = .ok (.getfield 24, 3) := by decide +kernel
theorem dX1_takePackets_36 : decode cX1_takePackets 36 = .ok (.iload 4, 2) := by decide +kernel
theorem dX1_takePackets_38 : decode cX1_takePackets 38 = .ok (.aload_n 0, 1) := by decide +kernel
theorem dX1_takePackets_39 : decode cX1_takePackets 39 = .ok (.getfield 13, 3) := by decide +kernel
theorem dX1_takePackets_42 : decode cX1_takePackets 42 = .ok (.iload 5, 2) := by decide +kernel
theorem dX1_takePackets_44 : decode cX1_takePackets 44 = .ok (.iaload, 1) := by decide +kernel
theorem dX1_takePackets_45 : decode cX1_takePackets 45 = .ok (.invokevirtual 195, 3) := by decide +kernel
theorem dX1_takePackets_48 : decode cX1_takePackets 48 = .ok (.aload_n 0, 1) := by decide +kernel
theorem dX1_takePackets_49 : decode cX1_takePackets 49 = .ok (.getfield 28, 3) := by decide +kernel
theorem dX1_takePackets_52 : decode cX1_takePackets 52 = .ok (.iload 5, 2) := by decide +kernel
theorem dX1_takePackets_54 : decode cX1_takePackets 54 = .ok (.ifCond .ne 7, 3) := by decide +kernel
theorem dX1_takePackets_57 : decode cX1_takePackets 57 = .ok (.lload_n 2, 1) := by decide +kernel
theorem dX1_takePackets_58 : decode cX1_takePackets 58 = .ok (.goto 6, 3) := by decide +kernel
theorem dX1_takePackets_61 : decode cX1_takePackets 61 = .ok (.ldc2_w 45, 3) := by decide +kernel
theorem dX1_takePackets_64 : decode cX1_takePackets 64 = .ok (.invokevirtual 199, 3) := by decide +kernel
theorem dX1_takePackets_67 : decode cX1_takePackets 67 = .ok (.iload 4, 2) := by decide +kernel
theorem dX1_takePackets_69 : decode cX1_takePackets 69 = .ok (.aload_n 0, 1) := by decide +kernel
theorem dX1_takePackets_70 : decode cX1_takePackets 70 = .ok (.getfield 13, 3) := by decide +kernel
theorem dX1_takePackets_73 : decode cX1_takePackets 73 = .ok (.iload 5, 2) := by decide +kernel
theorem dX1_takePackets_75 : decode cX1_takePackets 75 = .ok (.iaload, 1) := by decide +kernel
theorem dX1_takePackets_76 : decode cX1_takePackets 76 = .ok (.iadd, 1) := by decide +kernel
theorem dX1_takePackets_77 : decode cX1_takePackets 77 = .ok (.istore 4, 2) := by decide +kernel
theorem dX1_takePackets_79 : decode cX1_takePackets 79 = .ok (.iinc 5 1, 3) := by decide +kernel
theorem dX1_takePackets_82 : decode cX1_takePackets 82 = .ok (.goto (-73), 3) := by decide +kernel
theorem dX1_takePackets_85 : decode cX1_takePackets 85 = .ok (.return_, 1) := by decide +kernel
set_option maxRecDepth 20000 in
theorem ggX1_readLacing_X8_at : GoodIn wsX1_readLacing wsX8_at := goodIn_r _ [8, 9, 10, 57, 58, 59, 60] (by decide +kernel) (by decide +kernel)
set_option maxRecDepth 20000 in
theorem gX1_readLacing_X8_at : GoodIn wsX1_readLacing (wsV RX1 105 RX8 yX8_at wsX8_at) := goodIn_app (goodIn_of _ (by decide +kernel)) ggX1_readLacing_X8_at
set_option maxRecDepth 20000 in
theorem ggX1_readLacing_X1_shareAlike : GoodIn wsX1_readLacing wsX1_shareAlike := goodIn_r _ [15, 2, 44, 45, 46, 47, 48, 49, 50, 51, 52, 53, 54, 55, 56] (by decide +kernel) (by decide +kernel)
set_option maxRecDepth 20000 in
theorem gX1_readLacing_X1_shareAlike : GoodIn wsX1_readLacing (wsV RX1 203 RX1 yX1_shareAlike wsX1_shareAlike) := goodIn_app (goodIn_of _ (by decide +kernel)) ggX1_readLacing_X1_shareAlike
set_option maxRecDepth 20000 in
theorem ggX1_readLacing_X1_readSummedSize : GoodIn wsX1_readLacing wsX1_readSummedSize := goodIn_r _ [19, 1, 3, 20, 4, 5, 6, 7, 8, 9, 10, 44, 45, 46, 47, 48, 49, 50, 51, 52, 53, 54, 55, 56, 57, 58, 59, 60] (by decide +kernel) (by decide +kernel)
set_option maxRecDepth 20000 in
theorem gX1_readLacing_X1_readSummedSize : GoodIn wsX1_readLacing (wsV RX1 206 RX1 yX1_readSummedSize wsX1_readSummedSize) := goodIn_app (goodIn_of _ (by decide +kernel)) ggX1_readLacing_X1_readSummedSize
set_option maxRecDepth 20000 in
theorem ggX1_readLacing_X1_readSizeOrDifference : GoodIn wsX1_readLacing wsX1_readSizeOrDifference := goodIn_r _ [24, 1, 20, 2, 25, 26, 27, 14, 28, 3, 4, 5, 6, 7, 8, 9, 10, 29, 30, 31, 32, 33, 34, 35, 36, 37, 38, 39, 40, 41, 42, 43, 44, 45, 46, 47, 48, 49, 50, 51, 52, 53, 54, 55, 56, 57, 58, 59, 60] (by decide +kernel) (by decide +kernel)
set_option maxRecDepth 20000 in
theorem gX1_readLacing_X1_readSizeOrDifference : GoodIn wsX1_readLacing (wsV RX1 209 RX1 yX1_readSizeOrDifference wsX1_readSizeOrDifference) := goodIn_app (goodIn_of _ (by decide +kernel)) ggX1_readLacing_X1_readSizeOrDifference
theorem dX1_readLacing_0 : decode cX1_readLacing 0 = .ok (.aload_n 0, 1) := by decide +kernel
theorem dX1_readLacing_1 : decode cX1_readLacing 1 = .ok (.iload_n 2, 1) := by decide +kernel
theorem dX1_readLacing_2 : decode cX1_readLacing 2 = .ok (.putfield 180, 3) := by decide +kernel
theorem dX1_readLacing_5 : decode cX1_readLacing 5 = .ok (.iload_n 1, 1) := by decide +kernel
theorem dX1_readLacing_6 : decode cX1_readLacing 6 = .ok (.ifCond .ne 14, 3) := by decide +kernel
theorem dX1_readLacing_9 : decode cX1_readLacing 9 = .ok (.aload_n 0, 1) := by decide +kernel
theorem dX1_readLacing_10 : decode cX1_readLacing 10 = .ok (.getfield 13, 3) := by decide +kernel
theorem dX1_readLacing_13 : decode cX1_readLacing 13 = .ok (.iconst 0, 1) := by decide +kernel
theorem dX1_readLacing_14 : decode cX1_readLacing 14 = .ok (.iload_n 3, 1) := by decide +kernel
theorem dX1_readLacing_15 : decode cX1_readLacing 15 = .ok (.iload_n 2, 1) := by decide +kernel
theorem dX1_readLacing_16 : decode cX1_readLacing 16 = .ok (.isub, 1) := by decide +kernel
theorem dX1_readLacing_17 : decode cX1_readLacing 17 = .ok (.iastore, 1) := by decide +kernel
theorem dX1_readLacing_18 : decode cX1_readLacing 18 = .ok (.iconst 1, 1) := by decide +kernel
theorem dX1_readLacing_19 : decode cX1_readLacing 19 = .ok (.ireturn, 1) := by decide +kernel
theorem dX1_readLacing_20 : decode cX1_readLacing 20 = .ok (.iload_n 2, 1) := by decide +kernel
theorem dX1_readLacing_21 : decode cX1_readLacing 21 = .ok (.iload_n 3, 1) := by decide +kernel
theorem dX1_readLacing_22 : decode cX1_readLacing 22 = .ok (.if_icmp .lt 5, 3) := by decide +kernel
theorem dX1_readLacing_25 : decode cX1_readLacing 25 = .ok (.iconst (-1), 1) := by decide +kernel
theorem dX1_readLacing_26 : decode cX1_readLacing 26 = .ok (.ireturn, 1) := by decide +kernel
theorem dX1_readLacing_27 : decode cX1_readLacing 27 = .ok (.aload_n 0, 1) := by decide +kernel
theorem dX1_readLacing_28 : decode cX1_readLacing 28 = .ok (.getfield 24, 3) := by decide +kernel
theorem dX1_readLacing_31 : decode cX1_readLacing 31 = .ok (.iload_n 2, 1) := by decide +kernel
theorem dX1_readLacing_32 : decode cX1_readLacing 32 = .ok (.invokevirtual 105, 3) := by decide +kernel
theorem dX1_readLacing_35 : decode cX1_readLacing 35 = .ok (.iconst 1, 1) := by decide +kernel
theorem dX1_readLacing_36 : decode cX1_readLacing 36 = .ok (.iadd, 1) := by decide +kernel
theorem dX1_readLacing_37 : decode cX1_readLacing 37 = .ok (.istore 4, 2) := by decide +kernel
theorem dX1_readLacing_39 : decode cX1_readLacing 39 = .ok (.iload 4, 2) := by decide +kernel
theorem dX1_readLacing_41 : decode cX1_readLacing 41 = .ok (.iconst 1, 1) := by decide +kernel
theorem dX1_readLacing_42 : decode cX1_readLacing 42 = .ok (.if_icmp .lt 13, 3) := by decide +kernel
theorem dX1_readLacing_45 : decode cX1_readLacing 45 = .ok (.iload 4, 2) := by decide +kernel
theorem dX1_readLacing_47 : decode cX1_readLacing 47 = .ok (.aload_n 0, 1) := by decide +kernel
theorem dX1_readLacing_48 : decode cX1_readLacing 48 = .ok (.getfield 13, 3) := by decide +kernel
theorem dX1_readLacing_51 : decode cX1_readLacing 51 = .ok (.arraylength, 1) := by decide +kernel
theorem dX1_readLacing_52 : decode cX1_readLacing 52 = .ok (.if_icmp .le 5, 3) := by decide +kernel
theorem dX1_readLacing_55 : decode cX1_readLacing 55 = .ok (.iconst (-1), 1) := by decide +kernel
theorem dX1_readLacing_56 : decode cX1_readLacing 56 = .ok (.ireturn, 1) := by decide +kernel
theorem dX1_readLacing_57 : decode cX1_readLacing 57 = .ok (.aload_n 0, 1) := by decide +kernel
theorem dX1_readLacing_58 : decode cX1_readLacing 58 = .ok (.iload_n 2, 1) := by decide +kernel
theorem dX1_readLacing_59 : decode cX1_readLacing 59 = .ok (.iconst 1, 1) := by decide +kernel
theorem dX1_readLacing_60 : decode cX1_readLacing 60 = .ok (.iadd, 1) := by decide +kernel
theorem dX1_readLacing_61 : decode cX1_readLacing 61 = .ok (.putfield 180, 3) := by decide +kernel
theorem dX1_readLacing_64 : decode cX1_readLacing 64 = .ok (.iload_n 1, 1) := by decide +kernel
theorem dX1_readLacing_65 : decode cX1_readLacing 65 = .ok (.iconst 2, 1) := by decide +kernel
theorem dX1_readLacing_66 : decode cX1_readLacing 66 = .ok (.if_icmp .ne 16, 3) := by decide +kernel
theorem dX1_readLacing_69 : decode cX1_readLacing 69 = .ok (.aload_n 0, 1) := by decide +kernel
theorem dX1_readLacing_70 : decode cX1_readLacing 70 = .ok (.iload 4, 2) := by decide +kernel
theorem dX1_readLacing_72 : decode cX1_readLacing 72 = .ok (.iload_n 3, 1) := by decide +kernel
theorem dX1_readLacing_73 : decode cX1_readLacing 73 = .ok (.aload_n 0, 1) := by decide +kernel
theorem dX1_readLacing_74 : decode cX1_readLacing 74 = .ok (.getfield 180, 3) := by decide +kernel
theorem dX1_readLacing_77 : decode cX1_readLacing 77 = .ok (.isub, 1) := by decide +kernel
theorem dX1_readLacing_78 : decode cX1_readLacing 78 = .ok (.invokevirtual 203, 3) := by decide +kernel
theorem dX1_readLacing_81 : decode cX1_readLacing 81 = .ok (.ireturn, 1) := by decide +kernel
theorem dX1_readLacing_82 : decode cX1_readLacing 82 = .ok (.lconst 0, 1) := by decide +kernel
theorem dX1_readLacing_83 : decode cX1_readLacing 83 = .ok (.lstore 5, 2) := by decide +kernel
theorem dX1_readLacing_85 : decode cX1_readLacing 85 = .ok (.iconst 0, 1) := by decide +kernel
theorem dX1_readLacing_86 : decode cX1_readLacing 86 = .ok (.istore 7, 2) := by decide +kernel
theorem dX1_readLacing_88 : decode cX1_readLacing 88 = .ok (.iload 7, 2) := by decide +kernel
theorem dX1_readLacing_90 : decode cX1_readLacing 90 = .ok (.iload 4, 2) := by decide +kernel
theorem dX1_readLacing_92 : decode cX1_readLacing 92 = .ok (.iconst 1, 1) := by decide +kernel
theorem dX1_readLacing_93 : decode cX1_readLacing 93 = .ok (.isub, 1) := by decide +kernel
theorem dX1_readLacing_94 : decode cX1_readLacing 94 = .ok (.if_icmp .ge 67, 3) := by decide +kernel
theorem dX1_readLacing_97 : decode cX1_readLacing 97 = .ok (.iload_n 1, 1) := by decide +kernel
theorem dX1_readLacing_98 : decode cX1_readLacing 98 = .ok (.iconst 1, 1) := by decide +kernel
theorem dX1_readLacing_99 : decode cX1_readLacing 99 = .ok (.if_icmp .ne 11, 3) := by decide +kernel
theorem dX1_readLacing_102 : decode cX1_readLacing 102 = .ok (.aload_n 0, 1) := by decide +kernel
theorem dX1_readLacing_103 : decode cX1_readLacing 103 = .ok (.iload_n 3, 1) := by decide +kernel
theorem dX1_readLacing_104 : decode cX1_readLacing 104 = .ok (.invokevirtual 206, 3) := by decide +kernel
theorem dX1_readLacing_107 : decode cX1_readLacing 107 = .ok (.goto 10, 3) := by decide +kernel
theorem dX1_readLacing_110 : decode cX1_readLacing 110 = .ok (.aload_n 0, 1) := by decide +kernel
theorem dX1_readLacing_111 : decode cX1_readLacing 111 = .ok (.iload 7, 2) := by decide +kernel
theorem dX1_readLacing_113 : decode cX1_readLacing 113 = .ok (.iload_n 3, 1) := by decide +kernel
theorem dX1_readLacing_114 : decode cX1_readLacing 114 = .ok (.invokevirtual 209, 3) := by decide +kernel
theorem dX1_readLacing_117 : decode cX1_readLacing 117 = .ok (.lstore 8, 2) := by decide +kernel
theorem dX1_readLacing_119 : decode cX1_readLacing 119 = .ok (.lload 8, 2) := by decide +kernel
theorem dX1_readLacing_121 : decode cX1_readLacing 121 = .ok (.lconst 0, 1) := by decide +kernel
theorem dX1_readLacing_122 : decode cX1_readLacing 122 = .ok (.lcmp, 1) := by decide +kernel
theorem dX1_readLacing_123 : decode cX1_readLacing 123 = .ok (.ifCond .lt 13, 3) := by decide +kernel
theorem dX1_readLacing_126 : decode cX1_readLacing 126 = .ok (.lload 8, 2) := by decide +kernel
theorem dX1_readLacing_128 : decode cX1_readLacing 128 = .ok (.iload_n 3, 1) := by decide +kernel
theorem dX1_readLacing_129 : decode cX1_readLacing 129 = .ok (.iload_n 2, 1) := by decide +kernel
theorem dX1_readLacing_130 : decode cX1_readLacing 130 = .ok (.isub, 1) := by decide +kernel
theorem dX1_readLacing_131 : decode cX1_readLacing 131 = .ok (.i2l, 1) := by decide +kernel
theorem dX1_readLacing_132 : decode cX1_readLacing 132 = .ok (.lcmp, 1) := by decide +kernel
theorem dX1_readLacing_133 : decode cX1_readLacing 133 = .ok (.ifCond .le 5, 3) := by decide +kernel
theorem dX1_readLacing_136 : decode cX1_readLacing 136 = .ok (.iconst (-1), 1) := by decide +kernel
theorem dX1_readLacing_137 : decode cX1_readLacing 137 = .ok (.ireturn, 1) := by decide +kernel
theorem dX1_readLacing_138 : decode cX1_readLacing 138 = .ok (.aload_n 0, 1) := by decide +kernel
theorem dX1_readLacing_139 : decode cX1_readLacing 139 = .ok (.getfield 13, 3) := by decide +kernel
theorem dX1_readLacing_142 : decode cX1_readLacing 142 = .ok (.iload 7, 2) := by decide +kernel
theorem dX1_readLacing_144 : decode cX1_readLacing 144 = .ok (.lload 8, 2) := by decide +kernel
theorem dX1_readLacing_146 : decode cX1_readLacing 146 = .ok (.l2i, 1) := by decide +kernel
theorem dX1_readLacing_147 : decode cX1_readLacing 147 = .ok (.iastore, 1) := by decide +kernel
theorem dX1_readLacing_148 : decode cX1_readLacing 148 = .ok (.lload 5, 2) := by decide +kernel
theorem dX1_readLacing_150 : decode cX1_readLacing 150 = .ok (.lload 8, 2) := by decide +kernel
theorem dX1_readLacing_152 : decode cX1_readLacing 152 = .ok (.ladd, 1) := by decide +kernel
theorem dX1_readLacing_153 : decode cX1_readLacing 153 = .ok (.lstore 5, 2) := by decide +kernel
theorem dX1_readLacing_155 : decode cX1_readLacing 155 = .ok (.iinc 7 1, 3) := by decide +kernel
theorem dX1_readLacing_158 : decode cX1_readLacing 158 = .ok (.goto (-70), 3) := by decide +kernel
theorem dX1_readLacing_161 : decode cX1_readLacing 161 = .ok (.lload 5, 2) := by decide +kernel
theorem dX1_readLacing_163 : decode cX1_readLacing 163 = .ok (.iload_n 3, 1) := by decide +kernel
theorem dX1_readLacing_164 : decode cX1_readLacing 164 = .ok (.aload_n 0, 1) := by decide +kernel
theorem dX1_readLacing_165 : decode cX1_readLacing 165 = .ok (.getfield 180, 3) := by decide +kernel
theorem dX1_readLacing_168 : decode cX1_readLacing 168 = .ok (.isub, 1) := by decide +kernel
theorem dX1_readLacing_169 : decode cX1_readLacing 169 = .ok (.i2l, 1) := by decide +kernel
theorem dX1_readLacing_170 : decode cX1_readLacing 170 = .ok (.lcmp, 1) := by decide +kernel
theorem dX1_readLacing_171 : decode cX1_readLacing 171 = .ok (.ifCond .le 5, 3) := by decide +kernel
theorem dX1_readLacing_174 : decode cX1_readLacing 174 = .ok (.iconst (-1), 1) := by decide +kernel
theorem dX1_readLacing_175 : decode cX1_readLacing 175 = .ok (.ireturn, 1) := by decide +kernel
theorem dX1_readLacing_176 : decode cX1_readLacing 176 = .ok (.aload_n 0, 1) := by decide +kernel
theorem dX1_readLacing_177 : decode cX1_readLacing 177 = .ok (.getfield 13, 3) := by decide +kernel
theorem dX1_readLacing_180 : decode cX1_readLacing 180 = .ok (.iload 4, 2) := by decide +kernel
theorem dX1_readLacing_182 : decode cX1_readLacing 182 = .ok (.iconst 1, 1) := by decide +kernel
theorem dX1_readLacing_183 : decode cX1_readLacing 183 = .ok (.isub, 1) := by decide +kernel
theorem dX1_readLacing_184 : decode cX1_readLacing 184 = .ok (.iload_n 3, 1) := by decide +kernel
theorem dX1_readLacing_185 : decode cX1_readLacing 185 = .ok (.aload_n 0, 1) := by decide +kernel
theorem dX1_readLacing_186 : decode cX1_readLacing 186 = .ok (.getfield 180, 3) := by decide +kernel
theorem dX1_readLacing_189 : decode cX1_readLacing 189 = .ok (.isub, 1) := by decide +kernel
theorem dX1_readLacing_190 : decode cX1_readLacing 190 = .ok (.lload 5, 2) := by decide +kernel
theorem dX1_readLacing_192 : decode cX1_readLacing 192 = .ok (.l2i, 1) := by decide +kernel
theorem dX1_readLacing_193 : decode cX1_readLacing 193 = .ok (.isub, 1) := by decide +kernel
theorem dX1_readLacing_194 : decode cX1_readLacing 194 = .ok (.iastore, 1) := by decide +kernel
theorem dX1_readLacing_195 : decode cX1_readLacing 195 = .ok (.iload 4, 2) := by decide +kernel
theorem dX1_readLacing_197 : decode cX1_readLacing 197 = .ok (.ireturn, 1) := by decide +kernel
theorem dX1_shareAlike_0 : decode cX1_shareAlike 0 = .ok (.iload_n 1, 1) := by decide +kernel
theorem dX1_shareAlike_1 : decode cX1_shareAlike 1 = .ok (.iconst 1, 1) := by decide +kernel
theorem dX1_shareAlike_2 : decode cX1_shareAlike 2 = .ok (.if_icmp .lt 9, 3) := by decide +kernel
theorem dX1_shareAlike_5 : decode cX1_shareAlike 5 = .ok (.iload_n 2, 1) := by decide +kernel
theorem dX1_shareAlike_6 : decode cX1_shareAlike 6 = .ok (.iload_n 1, 1) := by decide +kernel
theorem dX1_shareAlike_7 : decode cX1_shareAlike 7 = .ok (.irem, 1) := by decide +kernel
theorem dX1_shareAlike_8 : decode cX1_shareAlike 8 = .ok (.ifCond .eq 5, 3) := by decide +kernel
theorem dX1_shareAlike_11 : decode cX1_shareAlike 11 = .ok (.iconst (-1), 1) := by decide +kernel
theorem dX1_shareAlike_12 : decode cX1_shareAlike 12 = .ok (.ireturn, 1) := by decide +kernel
theorem dX1_shareAlike_13 : decode cX1_shareAlike 13 = .ok (.iconst 0, 1) := by decide +kernel
theorem dX1_shareAlike_14 : decode cX1_shareAlike 14 = .ok (.istore_n 3, 1) := by decide +kernel
theorem dX1_shareAlike_15 : decode cX1_shareAlike 15 = .ok (.iload_n 3, 1) := by decide +kernel
theorem dX1_shareAlike_16 : decode cX1_shareAlike 16 = .ok (.iload_n 1, 1) := by decide +kernel
theorem dX1_shareAlike_17 : decode cX1_shareAlike 17 = .ok (.if_icmp .ge 27, 3) := by decide +kernel
theorem dX1_shareAlike_20 : decode cX1_shareAlike 20 = .ok (.iload_n 3, 1) := by decide +kernel
theorem dX1_shareAlike_21 : decode cX1_shareAlike 21 = .ok (.aload_n 0, 1) := by decide +kernel
theorem dX1_shareAlike_22 : decode cX1_shareAlike 22 = .ok (.getfield 13, 3) := by decide +kernel
theorem dX1_shareAlike_25 : decode cX1_shareAlike 25 = .ok (.arraylength, 1) := by decide +kernel
theorem dX1_shareAlike_26 : decode cX1_shareAlike 26 = .ok (.if_icmp .ge 18, 3) := by decide +kernel
theorem dX1_shareAlike_29 : decode cX1_shareAlike 29 = .ok (.aload_n 0, 1) := by decide +kernel
theorem dX1_shareAlike_30 : decode cX1_shareAlike 30 = .ok (.getfield 13, 3) := by decide +kernel
theorem dX1_shareAlike_33 : decode cX1_shareAlike 33 = .ok (.iload_n 3, 1) := by decide +kernel
theorem dX1_shareAlike_34 : decode cX1_shareAlike 34 = .ok (.iload_n 2, 1) := by decide +kernel
theorem dX1_shareAlike_35 : decode cX1_shareAlike 35 = .ok (.iload_n 1, 1) := by decide +kernel
theorem dX1_shareAlike_36 : decode cX1_shareAlike 36 = .ok (.idiv, 1) := by decide +kernel
theorem dX1_shareAlike_37 : decode cX1_shareAlike 37 = .ok (.iastore, 1) := by decide +kernel
theorem dX1_shareAlike_38 : decode cX1_shareAlike 38 = .ok (.iinc 3 1, 3) := by decide +kernel
theorem dX1_shareAlike_41 : decode cX1_shareAlike 41 = .ok (.goto (-26), 3) := by decide +kernel
theorem dX1_shareAlike_44 : decode cX1_shareAlike 44 = .ok (.iload_n 1, 1) := by decide +kernel
theorem dX1_shareAlike_45 : decode cX1_shareAlike 45 = .ok (.ireturn, 1) := by decide +kernel
set_option maxRecDepth 20000 in
theorem ggX1_readSummedSize_X8_at : GoodIn wsX1_readSummedSize wsX8_at := goodIn_r _ [8, 9, 10, 24, 25, 26, 27] (by decide +kernel) (by decide +kernel)
set_option maxRecDepth 20000 in
theorem gX1_readSummedSize_X8_at : GoodIn wsX1_readSummedSize (wsV RX1 105 RX8 yX8_at wsX8_at) := goodIn_app (goodIn_of _ (by decide +kernel)) ggX1_readSummedSize_X8_at
theorem dX1_readSummedSize_0 : decode cX1_readSummedSize 0 = .ok (.lconst 0, 1) := by decide +kernel
theorem dX1_readSummedSize_1 : decode cX1_readSummedSize 1 = .ok (.lstore_n 2, 1) := by decide +kernel
theorem dX1_readSummedSize_2 : decode cX1_readSummedSize 2 = .ok (.aload_n 0, 1) := by decide +kernel
theorem dX1_readSummedSize_3 : decode cX1_readSummedSize 3 = .ok (.getfield 180, 3) := by decide +kernel
theorem dX1_readSummedSize_6 : decode cX1_readSummedSize 6 = .ok (.istore 4, 2) := by decide +kernel
theorem dX1_readSummedSize_8 : decode cX1_readSummedSize 8 = .ok (.iload 4, 2) := by decide +kernel
theorem dX1_readSummedSize_10 : decode cX1_readSummedSize 10 = .ok (.iload_n 1, 1) := by decide +kernel
theorem dX1_readSummedSize_11 : decode cX1_readSummedSize 11 = .ok (.if_icmp .ge 47, 3) := by decide +kernel
theorem dX1_readSummedSize_14 : decode cX1_readSummedSize 14 = .ok (.lload_n 2, 1) := by decide +kernel
theorem dX1_readSummedSize_15 : decode cX1_readSummedSize 15 = .ok (.aload_n 0, 1) := by decide +kernel
theorem dX1_readSummedSize_16 : decode cX1_readSummedSize 16 = .ok (.getfield 24, 3) := by decide +kernel
theorem dX1_readSummedSize_19 : decode cX1_readSummedSize 19 = .ok (.iload 4, 2) := by decide +kernel
theorem dX1_readSummedSize_21 : decode cX1_readSummedSize 21 = .ok (.invokevirtual 105, 3) := by decide +kernel
theorem dX1_readSummedSize_24 : decode cX1_readSummedSize 24 = .ok (.i2l, 1) := by decide +kernel
theorem dX1_readSummedSize_25 : decode cX1_readSummedSize 25 = .ok (.ladd, 1) := by decide +kernel
theorem dX1_readSummedSize_26 : decode cX1_readSummedSize 26 = .ok (.lstore_n 2, 1) := by decide +kernel
theorem dX1_readSummedSize_27 : decode cX1_readSummedSize 27 = .ok (.aload_n 0, 1) := by decide +kernel
theorem dX1_readSummedSize_28 : decode cX1_readSummedSize 28 = .ok (.getfield 24, 3) := by decide +kernel
theorem dX1_readSummedSize_31 : decode cX1_readSummedSize 31 = .ok (.iload 4, 2) := by decide +kernel
theorem dX1_readSummedSize_33 : decode cX1_readSummedSize 33 = .ok (.invokevirtual 105, 3) := by decide +kernel
theorem dX1_readSummedSize_36 : decode cX1_readSummedSize 36 = .ok (.sipush 255, 3) := by decide +kernel
theorem dX1_readSummedSize_39 : decode cX1_readSummedSize 39 = .ok (.if_icmp .ge 13, 3) := by decide +kernel
theorem dX1_readSummedSize_42 : decode cX1_readSummedSize 42 = .ok (.aload_n 0, 1) := by decide +kernel
theorem dX1_readSummedSize_43 : decode cX1_readSummedSize 43 = .ok (.iload 4, 2) := by decide +kernel
theorem dX1_readSummedSize_45 : decode cX1_readSummedSize 45 = .ok (.iconst 1, 1) := by decide +kernel
theorem dX1_readSummedSize_46 : decode cX1_readSummedSize 46 = .ok (.iadd, 1) := by decide +kernel
theorem dX1_readSummedSize_47 : decode cX1_readSummedSize 47 = .ok (.putfield 180, 3) := by decide +kernel
theorem dX1_readSummedSize_50 : decode cX1_readSummedSize 50 = .ok (.lload_n 2, 1) := by decide +kernel
theorem dX1_readSummedSize_51 : decode cX1_readSummedSize 51 = .ok (.lreturn, 1) := by decide +kernel
theorem dX1_readSummedSize_52 : decode cX1_readSummedSize 52 = .ok (.iinc 4 1, 3) := by decide +kernel
theorem dX1_readSummedSize_55 : decode cX1_readSummedSize 55 = .ok (.goto (-47), 3) := by decide +kernel
theorem dX1_readSummedSize_58 : decode cX1_readSummedSize 58 = .ok (.ldc2_w 45, 3) := by decide +kernel
theorem dX1_readSummedSize_61 : decode cX1_readSummedSize 61 = .ok (.lreturn, 1) := by decide +kernel
set_option maxRecDepth 20000 in
theorem ggX1_readSizeOrDifference_X1_sizeWidth : GoodIn wsX1_readSizeOrDifference wsX1_sizeWidth := goodIn_r _ [8, 9, 10, 11, 12, 13, 14, 15, 16, 17, 18, 7, 19, 32, 33, 34, 35, 36, 37, 38, 39, 40, 41, 42, 43, 44, 45, 46, 47, 48] (by decide +kernel) (by decide +kernel)
set_option maxRecDepth 20000 in
theorem gX1_readSizeOrDifference_X1_sizeWidth : GoodIn wsX1_readSizeOrDifference (wsV RX1 150 RX1 yX1_sizeWidth wsX1_sizeWidth) := goodIn_app (goodIn_of _ (by decide +kernel)) ggX1_readSizeOrDifference_X1_sizeWidth
set_option maxRecDepth 20000 in
theorem ggX1_readSizeOrDifference_X1_sizeNumber : GoodIn wsX1_readSizeOrDifference wsX1_sizeNumber := goodIn_r _ [23, 9, 2, 10, 11, 12, 13, 14, 15, 16, 24, 25, 26, 27, 28, 32, 33, 34, 35, 36, 37, 38, 39, 40, 41, 42, 43, 44, 45, 46, 47, 48] (by decide +kernel) (by decide +kernel)
set_option maxRecDepth 20000 in
theorem gX1_readSizeOrDifference_X1_sizeNumber : GoodIn wsX1_readSizeOrDifference (wsV RX1 153 RX1 yX1_sizeNumber wsX1_sizeNumber) := goodIn_app (goodIn_of _ (by decide +kernel)) ggX1_readSizeOrDifference_X1_sizeNumber
set_option maxRecDepth 20000 in
theorem ggX1_readSizeOrDifference_X0_differenceShift : GoodIn wsX1_readSizeOrDifference wsX0_differenceShift := goodIn_r _ [31] (by decide +kernel) (by decide +kernel)
set_option maxRecDepth 20000 in
theorem gX1_readSizeOrDifference_X0_differenceShift : GoodIn wsX1_readSizeOrDifference (va_wsS RX1 212 yX0_differenceShift wsX0_differenceShift) := goodIn_app (goodIn_of _ (by decide +kernel)) ggX1_readSizeOrDifference_X0_differenceShift
theorem dX1_readSizeOrDifference_0 : decode cX1_readSizeOrDifference 0 = .ok (.aload_n 0, 1) := by decide +kernel
theorem dX1_readSizeOrDifference_1 : decode cX1_readSizeOrDifference 1 = .ok (.aload_n 0, 1) := by decide +kernel
theorem dX1_readSizeOrDifference_2 : decode cX1_readSizeOrDifference 2 = .ok (.getfield 180, 3) := by decide +kernel
theorem dX1_readSizeOrDifference_5 : decode cX1_readSizeOrDifference 5 = .ok (.iload_n 2, 1) := by decide +kernel
theorem dX1_readSizeOrDifference_6 : decode cX1_readSizeOrDifference 6 = .ok (.invokevirtual 150, 3) := by decide +kernel
theorem dX1_readSizeOrDifference_9 : decode cX1_readSizeOrDifference 9 = .ok (.istore_n 3, 1) := by decide +kernel
theorem dX1_readSizeOrDifference_10 : decode cX1_readSizeOrDifference 10 = .ok (.iload_n 3, 1) := by decide +kernel
theorem dX1_readSizeOrDifference_11 : decode cX1_readSizeOrDifference 11 = .ok (.iconst 1, 1) := by decide +kernel
theorem dX1_readSizeOrDifference_12 : decode cX1_readSizeOrDifference 12 = .ok (.if_icmp .ge 7, 3) := by decide +kernel
theorem dX1_readSizeOrDifference_15 : decode cX1_readSizeOrDifference 15 = .ok (.ldc2_w 45, 3) := by decide +kernel
theorem dX1_readSizeOrDifference_18 : decode cX1_readSizeOrDifference 18 = .ok (.lreturn, 1) := by decide +kernel
theorem dX1_readSizeOrDifference_19 : decode cX1_readSizeOrDifference 19 = .ok (.aload_n 0, 1) := by decide +kernel
theorem dX1_readSizeOrDifference_20 : decode cX1_readSizeOrDifference 20 = .ok (.aload_n 0, 1) := by decide +kernel
theorem dX1_readSizeOrDifference_21 : decode cX1_readSizeOrDifference 21 = .ok (.getfield 180, 3) := by decide +kernel
theorem dX1_readSizeOrDifference_24 : decode cX1_readSizeOrDifference 24 = .ok (.iload_n 3, 1) := by decide +kernel
theorem dX1_readSizeOrDifference_25 : decode cX1_readSizeOrDifference 25 = .ok (.invokevirtual 153, 3) := by decide +kernel
theorem dX1_readSizeOrDifference_28 : decode cX1_readSizeOrDifference 28 = .ok (.lstore 4, 2) := by decide +kernel
theorem dX1_readSizeOrDifference_30 : decode cX1_readSizeOrDifference 30 = .ok (.lload 4, 2) := by decide +kernel
theorem dX1_readSizeOrDifference_32 : decode cX1_readSizeOrDifference 32 = .ok (.ldc2_w 45, 3) := by decide +kernel
theorem dX1_readSizeOrDifference_35 : decode cX1_readSizeOrDifference 35 = .ok (.lcmp, 1) := by decide +kernel
theorem dX1_readSizeOrDifference_36 : decode cX1_readSizeOrDifference 36 = .ok (.ifCond .ne 7, 3) := by decide +kernel
theorem dX1_readSizeOrDifference_39 : decode cX1_readSizeOrDifference 39 = .ok (.ldc2_w 45, 3) := by decide +kernel
theorem dX1_readSizeOrDifference_42 : decode cX1_readSizeOrDifference 42 = .ok (.lreturn, 1) := by decide +kernel
theorem dX1_readSizeOrDifference_43 : decode cX1_readSizeOrDifference 43 = .ok (.aload_n 0, 1) := by decide +kernel
theorem dX1_readSizeOrDifference_44 : decode cX1_readSizeOrDifference 44 = .ok (.dup, 1) := by decide +kernel
theorem dX1_readSizeOrDifference_45 : decode cX1_readSizeOrDifference 45 = .ok (.getfield 180, 3) := by decide +kernel
theorem dX1_readSizeOrDifference_48 : decode cX1_readSizeOrDifference 48 = .ok (.iload_n 3, 1) := by decide +kernel
