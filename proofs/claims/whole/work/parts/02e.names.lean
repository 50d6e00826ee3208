theorem dX10_sumOf_33 : decode cX10_sumOf 33 = .ok (.iadd, 1) := by decide +kernel
theorem dX10_sumOf_34 : decode cX10_sumOf 34 = .ok (.baload, 1) := by decide +kernel
theorem dX10_sumOf_35 : decode cX10_sumOf 35 = .ok (.sipush 255, 3) := by decide +kernel
theorem dX10_sumOf_38 : decode cX10_sumOf 38 = .ok (.iand, 1) := by decide +kernel
theorem dX10_sumOf_39 : decode cX10_sumOf 39 = .ok (.istore 5, 2) := by decide +kernel
theorem dX10_sumOf_41 : decode cX10_sumOf 41 = .ok (.iload_n 3, 1) := by decide +kernel
theorem dX10_sumOf_42 : decode cX10_sumOf 42 = .ok (.iload 5, 2) := by decide +kernel
theorem dX10_sumOf_44 : decode cX10_sumOf 44 = .ok (.bipush 24, 2) := by decide +kernel
theorem dX10_sumOf_46 : decode cX10_sumOf 46 = .ok (.ishl, 1) := by decide +kernel
theorem dX10_sumOf_47 : decode cX10_sumOf 47 = .ok (.ixor, 1) := by decide +kernel
theorem dX10_sumOf_48 : decode cX10_sumOf 48 = .ok (.istore_n 3, 1) := by decide +kernel
theorem dX10_sumOf_49 : decode cX10_sumOf 49 = .ok (.iconst 0, 1) := by decide +kernel
theorem dX10_sumOf_50 : decode cX10_sumOf 50 = .ok (.istore 6, 2) := by decide +kernel
theorem dX10_sumOf_52 : decode cX10_sumOf 52 = .ok (.iload 6, 2) := by decide +kernel
theorem dX10_sumOf_54 : decode cX10_sumOf 54 = .ok (.bipush 8, 2) := by decide +kernel
theorem dX10_sumOf_56 : decode cX10_sumOf 56 = .ok (.if_icmp .ge 26, 3) := by decide +kernel
theorem dX10_sumOf_59 : decode cX10_sumOf 59 = .ok (.iload_n 3, 1) := by decide +kernel
theorem dX10_sumOf_60 : decode cX10_sumOf 60 = .ok (.ifCond .ge 12, 3) := by decide +kernel
theorem dX10_sumOf_63 : decode cX10_sumOf 63 = .ok (.iload_n 3, 1) := by decide +kernel
theorem dX10_sumOf_64 : decode cX10_sumOf 64 = .ok (.iconst 1, 1) := by decide +kernel
theorem dX10_sumOf_65 : decode cX10_sumOf 65 = .ok (.ishl, 1) := by decide +kernel
theorem dX10_sumOf_66 : decode cX10_sumOf 66 = .ok (.ldc 94, 2) := by decide +kernel
theorem dX10_sumOf_68 : decode cX10_sumOf 68 = .ok (.ixor, 1) := by decide +kernel
theorem dX10_sumOf_69 : decode cX10_sumOf 69 = .ok (.goto 6, 3) := by decide +kernel
theorem dX10_sumOf_72 : decode cX10_sumOf 72 = .ok (.iload_n 3, 1) := by decide +kernel
theorem dX10_sumOf_73 : decode cX10_sumOf 73 = .ok (.iconst 1, 1) := by decide +kernel
theorem dX10_sumOf_74 : decode cX10_sumOf 74 = .ok (.ishl, 1) := by decide +kernel
theorem dX10_sumOf_75 : decode cX10_sumOf 75 = .ok (.istore_n 3, 1) := by decide +kernel
theorem dX10_sumOf_76 : decode cX10_sumOf 76 = .ok (.iinc 6 1, 3) := by decide +kernel
theorem dX10_sumOf_79 : decode cX10_sumOf 79 = .ok (.goto (-27), 3) := by decide +kernel
theorem dX10_sumOf_82 : decode cX10_sumOf 82 = .ok (.iinc 4 1, 3) := by decide +kernel
theorem dX10_sumOf_85 : decode cX10_sumOf 85 = .ok (.goto (-80), 3) := by decide +kernel
theorem dX10_sumOf_88 : decode cX10_sumOf 88 = .ok (.iload_n 3, 1) := by decide +kernel
theorem dX10_sumOf_89 : decode cX10_sumOf 89 = .ok (.ireturn, 1) := by decide +kernel
set_option maxRecDepth 20000 in
theorem ggX10_putSum_X10_sumOf : GoodIn wsX10_putSum wsX10_sumOf := goodIn_r _ [4, 5] (by decide +kernel) (by decide +kernel)
set_option maxRecDepth 20000 in
theorem gX10_putSum_X10_sumOf : GoodIn wsX10_putSum (va_wsS RX10 95 yX10_sumOf wsX10_sumOf) := goodIn_app (goodIn_of _ (by decide +kernel)) ggX10_putSum_X10_sumOf
theorem dX10_putSum_0 : decode cX10_putSum 0 = .ok (.aload_n 0, 1) := by decide +kernel
theorem dX10_putSum_1 : decode cX10_putSum 1 = .ok (.iload_n 1, 1) := by decide +kernel
theorem dX10_putSum_2 : decode cX10_putSum 2 = .ok (.iload_n 2, 1) := by decide +kernel
theorem dX10_putSum_3 : decode cX10_putSum 3 = .ok (.invokestatic 95, 3) := by decide +kernel
theorem dX10_putSum_6 : decode cX10_putSum 6 = .ok (.istore_n 3, 1) := by decide +kernel
theorem dX10_putSum_7 : decode cX10_putSum 7 = .ok (.iconst 0, 1) := by decide +kernel
theorem dX10_putSum_8 : decode cX10_putSum 8 = .ok (.istore 4, 2) := by decide +kernel
theorem dX10_putSum_10 : decode cX10_putSum 10 = .ok (.iload 4, 2) := by decide +kernel
theorem dX10_putSum_12 : decode cX10_putSum 12 = .ok (.iconst 4, 1) := by decide +kernel
theorem dX10_putSum_13 : decode cX10_putSum 13 = .ok (.if_icmp .ge 26, 3) := by decide +kernel
theorem dX10_putSum_16 : decode cX10_putSum 16 = .ok (.aload_n 0, 1) := by decide +kernel
theorem dX10_putSum_17 : decode cX10_putSum 17 = .ok (.iload_n 1, 1) := by decide +kernel
theorem dX10_putSum_18 : decode cX10_putSum 18 = .ok (.bipush 22, 2) := by decide +kernel
theorem dX10_putSum_20 : decode cX10_putSum 20 = .ok (.iadd, 1) := by decide +kernel
theorem dX10_putSum_21 : decode cX10_putSum 21 = .ok (.iload 4, 2) := by decide +kernel
theorem dX10_putSum_23 : decode cX10_putSum 23 = .ok (.iadd, 1) := by decide +kernel
theorem dX10_putSum_24 : decode cX10_putSum 24 = .ok (.iload_n 3, 1) := by decide +kernel
theorem dX10_putSum_25 : decode cX10_putSum 25 = .ok (.bipush 8, 2) := by decide +kernel
theorem dX10_putSum_27 : decode cX10_putSum 27 = .ok (.iload 4, 2) := by decide +kernel
theorem dX10_putSum_29 : decode cX10_putSum 29 = .ok (.imul, 1) := by decide +kernel
theorem dX10_putSum_30 : decode cX10_putSum 30 = .ok (.ishr, 1) := by decide +kernel
theorem dX10_putSum_31 : decode cX10_putSum 31 = .ok (.i2b, 1) := by decide +kernel
theorem dX10_putSum_32 : decode cX10_putSum 32 = .ok (.bastore, 1) := by decide +kernel
theorem dX10_putSum_33 : decode cX10_putSum 33 = .ok (.iinc 4 1, 3) := by decide +kernel
theorem dX10_putSum_36 : decode cX10_putSum 36 = .ok (.goto (-26), 3) := by decide +kernel
theorem dX10_putSum_39 : decode cX10_putSum 39 = .ok (.return_, 1) := by decide +kernel
set_option maxRecDepth 20000 in
theorem ggX10_pages_X10_put : GoodIn wsX10_pages wsX10_put := goodIn_r _ [13, 4, 5, 8, 39, 40, 41, 42, 43, 44, 45, 46, 47, 48, 49, 50, 51, 52, 53, 54, 55, 56, 57, 58, 59, 60, 61, 62, 63, 64, 65, 66, 67, 68, 69, 70, 71, 72, 73, 74, 75, 76, 77, 78, 79, 80, 81, 82, 83, 84] (by decide +kernel) (by decide +kernel)
set_option maxRecDepth 20000 in
theorem gX10_pages_X10_put : GoodIn wsX10_pages (wsV RX10 88 RX10 yX10_put wsX10_put) := goodIn_app (goodIn_of _ (by decide +kernel)) ggX10_pages_X10_put
set_option maxRecDepth 20000 in
theorem ggX10_pages_X10_timeOf : GoodIn wsX10_pages wsX10_timeOf := goodIn_r _ [17, 3, 2, 39, 40, 41, 42, 43, 44, 45, 46, 47, 48, 49, 50, 51, 52, 53, 54, 55, 56, 57, 58, 59, 60, 61, 62, 63, 64, 65, 66, 67, 68, 69, 70, 71, 72, 73, 74, 75, 76, 77, 78, 79, 80, 81, 82, 83, 84] (by decide +kernel) (by decide +kernel)
set_option maxRecDepth 20000 in
theorem gX10_pages_X10_timeOf : GoodIn wsX10_pages (wsV RX10 99 RX10 yX10_timeOf wsX10_timeOf) := goodIn_app (goodIn_of _ (by decide +kernel)) ggX10_pages_X10_timeOf
set_option maxRecDepth 20000 in
theorem ggX10_pages_X10_putLow : GoodIn wsX10_pages wsX10_putLow := goodIn_r _ [21, 9, 10, 11, 12, 13, 4, 5, 8, 39, 40, 41, 42, 43, 44, 45, 46, 47, 48, 49, 50, 51, 52, 53, 54, 55, 56, 57, 58, 59, 60, 61, 62, 63, 64, 65, 66, 67, 68, 69, 70, 71, 72, 73, 74, 75, 76, 77, 78, 79, 80, 81, 82, 83, 84] (by decide +kernel) (by decide +kernel)
set_option maxRecDepth 20000 in
theorem gX10_pages_X10_putLow : GoodIn wsX10_pages (wsV RX10 103 RX10 yX10_putLow wsX10_putLow) := goodIn_app (goodIn_of _ (by decide +kernel)) ggX10_pages_X10_putLow
set_option maxRecDepth 20000 in
theorem ggX10_pages_X10_segmentsFrom : GoodIn wsX10_pages wsX10_segmentsFrom := goodIn_r _ [25, 6, 9, 10, 11, 12, 13, 4, 5, 8, 39, 40, 41, 42, 43, 44, 45, 46, 47, 48, 49, 50, 51, 52, 53, 54, 55, 56, 57, 58, 59, 60, 61, 62, 63, 64, 65, 66, 67, 68, 69, 70, 71, 72, 73, 74, 75, 76, 77, 78, 79, 80, 81, 82, 83, 84] (by decide +kernel) (by decide +kernel)
set_option maxRecDepth 20000 in
theorem gX10_pages_X10_segmentsFrom : GoodIn wsX10_pages (wsV RX10 107 RX10 yX10_segmentsFrom wsX10_segmentsFrom) := goodIn_app (goodIn_of _ (by decide +kernel)) ggX10_pages_X10_segmentsFrom
set_option maxRecDepth 20000 in
theorem ggX10_pages_X10_putSum : GoodIn wsX10_pages wsX10_putSum := goodIn_r _ [28, 29, 30, 12, 31, 32] (by decide +kernel) (by decide +kernel)
set_option maxRecDepth 20000 in
theorem gX10_pages_X10_putSum : GoodIn wsX10_pages (va_wsS RX10 111 yX10_putSum wsX10_putSum) := goodIn_app (goodIn_of _ (by decide +kernel)) ggX10_pages_X10_putSum
set_option maxRecDepth 20000 in
theorem ggX10_pages_X10_drawn : GoodIn wsX10_pages wsX10_drawn := goodIn_r _ [36, 5, 4, 37, 8, 38, 39, 40, 41, 42, 43, 44, 45, 46, 47, 48, 49, 50, 51, 52, 53, 54, 55, 56, 57, 58, 59, 60, 61, 62, 63, 64, 65, 66, 67, 68, 69, 70, 71, 72, 73, 74, 75, 76, 77, 78, 79, 80, 81, 82, 83, 84] (by decide +kernel) (by decide +kernel)
set_option maxRecDepth 20000 in
theorem gX10_pages_X10_drawn : GoodIn wsX10_pages (wsV RX10 115 RX10 yX10_drawn wsX10_drawn) := goodIn_app (goodIn_of _ (by decide +kernel)) ggX10_pages_X10_drawn
theorem dX10_pages_0 : decode cX10_pages 0 = .ok (.iload_n 2, 1) := by decide +kernel
theorem dX10_pages_1 : decode cX10_pages 1 = .ok (.iconst 1, 1) := by decide +kernel
theorem dX10_pages_2 : decode cX10_pages 2 = .ok (.if_icmp .lt 21, 3) := by decide +kernel
theorem dX10_pages_5 : decode cX10_pages 5 = .ok (.iload_n 2, 1) := by decide +kernel
theorem dX10_pages_6 : decode cX10_pages 6 = .ok (.bipush 20, 2) := by decide +kernel
theorem dX10_pages_8 : decode cX10_pages 8 = .ok (.if_icmp .gt 15, 3) := by decide +kernel
theorem dX10_pages_11 : decode cX10_pages 11 = .ok (.iload_n 3, 1) := by decide +kernel
theorem dX10_pages_12 : decode cX10_pages 12 = .ok (.iconst 1, 1) := by decide +kernel
theorem dX10_pages_13 : decode cX10_pages 13 = .ok (.if_icmp .lt 10, 3) := by decide +kernel
theorem dX10_pages_16 : decode cX10_pages 16 = .ok (.iload_n 3, 1) := by decide +kernel
theorem dX10_pages_17 : decode cX10_pages 17 = .ok (.sipush 255, 3) := by decide +kernel
theorem dX10_pages_20 : decode cX10_pages 20 = .ok (.if_icmp .le 6, 3) := by decide +kernel
theorem dX10_pages_23 : decode cX10_pages 23 = .ok (.bipush (-2), 2) := by decide +kernel
theorem dX10_pages_25 : decode cX10_pages 25 = .ok (.ireturn, 1) := by decide +kernel
theorem dX10_pages_26 : decode cX10_pages 26 = .ok (.aload_n 0, 1) := by decide +kernel
theorem dX10_pages_27 : decode cX10_pages 27 = .ok (.getfield 69, 3) := by decide +kernel
theorem dX10_pages_30 : decode cX10_pages 30 = .ok (.ifCond .ne 5, 3) := by decide +kernel
theorem dX10_pages_33 : decode cX10_pages 33 = .ok (.iconst (-1), 1) := by decide +kernel
theorem dX10_pages_34 : decode cX10_pages 34 = .ok (.ireturn, 1) := by decide +kernel
theorem dX10_pages_35 : decode cX10_pages 35 = .ok (.ldc2_w 65, 3) := by decide +kernel
theorem dX10_pages_38 : decode cX10_pages 38 = .ok (.lstore 4, 2) := by decide +kernel
theorem dX10_pages_40 : decode cX10_pages 40 = .ok (.iconst 0, 1) := by decide +kernel
theorem dX10_pages_41 : decode cX10_pages 41 = .ok (.istore 6, 2) := by decide +kernel
theorem dX10_pages_43 : decode cX10_pages 43 = .ok (.iload 6, 2) := by decide +kernel
theorem dX10_pages_45 : decode cX10_pages 45 = .ok (.aload_n 0, 1) := by decide +kernel
theorem dX10_pages_46 : decode cX10_pages 46 = .ok (.getfield 69, 3) := by decide +kernel
theorem dX10_pages_49 : decode cX10_pages 49 = .ok (.if_icmp .ge 50, 3) := by decide +kernel
theorem dX10_pages_52 : decode cX10_pages 52 = .ok (.aload_n 0, 1) := by decide +kernel
theorem dX10_pages_53 : decode cX10_pages 53 = .ok (.getfield 26, 3) := by decide +kernel
theorem dX10_pages_56 : decode cX10_pages 56 = .ok (.iload 6, 2) := by decide +kernel
theorem dX10_pages_58 : decode cX10_pages 58 = .ok (.laload, 1) := by decide +kernel
theorem dX10_pages_59 : decode cX10_pages 59 = .ok (.ldc2_w 65, 3) := by decide +kernel
theorem dX10_pages_62 : decode cX10_pages 62 = .ok (.lcmp, 1) := by decide +kernel
theorem dX10_pages_63 : decode cX10_pages 63 = .ok (.ifCond .ne 6, 3) := by decide +kernel
theorem dX10_pages_66 : decode cX10_pages 66 = .ok (.goto 27, 3) := by decide +kernel
theorem dX10_pages_69 : decode cX10_pages 69 = .ok (.aload_n 0, 1) := by decide +kernel
theorem dX10_pages_70 : decode cX10_pages 70 = .ok (.getfield 26, 3) := by decide +kernel
theorem dX10_pages_73 : decode cX10_pages 73 = .ok (.iload 6, 2) := by decide +kernel
theorem dX10_pages_75 : decode cX10_pages 75 = .ok (.laload, 1) := by decide +kernel
theorem dX10_pages_76 : decode cX10_pages 76 = .ok (.lload 4, 2) := by decide +kernel
theorem dX10_pages_78 : decode cX10_pages 78 = .ok (.lcmp, 1) := by decide +kernel
theorem dX10_pages_79 : decode cX10_pages 79 = .ok (.ifCond .ge 5, 3) := by decide +kernel
theorem dX10_pages_82 : decode cX10_pages 82 = .ok (.iconst (-1), 1) := by decide +kernel
theorem dX10_pages_83 : decode cX10_pages 83 = .ok (.ireturn, 1) := by decide +kernel
theorem dX10_pages_84 : decode cX10_pages 84 = .ok (.aload_n 0, 1) := by decide +kernel
theorem dX10_pages_85 : decode cX10_pages 85 = .ok (.getfield 26, 3) := by decide +kernel
theorem dX10_pages_88 : decode cX10_pages 88 = .ok (.iload 6, 2) := by decide +kernel
theorem dX10_pages_90 : decode cX10_pages 90 = .ok (.laload, 1) := by decide +kernel
theorem dX10_pages_91 : decode cX10_pages 91 = .ok (.lstore 4, 2) := by decide +kernel
theorem dX10_pages_93 : decode cX10_pages 93 = .ok (.iinc 6 1, 3) := by decide +kernel
theorem dX10_pages_96 : decode cX10_pages 96 = .ok (.goto (-53), 3) := by decide +kernel
theorem dX10_pages_99 : decode cX10_pages 99 = .ok (.aload_n 0, 1) := by decide +kernel
theorem dX10_pages_100 : decode cX10_pages 100 = .ok (.iconst 0, 1) := by decide +kernel
theorem dX10_pages_101 : decode cX10_pages 101 = .ok (.putfield 81, 3) := by decide +kernel
theorem dX10_pages_104 : decode cX10_pages 104 = .ok (.aload_n 0, 1) := by decide +kernel
theorem dX10_pages_105 : decode cX10_pages 105 = .ok (.iconst 0, 1) := by decide +kernel
theorem dX10_pages_106 : decode cX10_pages 106 = .ok (.putfield 84, 3) := by decide +kernel
theorem dX10_pages_109 : decode cX10_pages 109 = .ok (.iconst 0, 1) := by decide +kernel
theorem dX10_pages_110 : decode cX10_pages 110 = .ok (.istore 6, 2) := by decide +kernel
theorem dX10_pages_112 : decode cX10_pages 112 = .ok (.iconst 0, 1) := by decide +kernel
theorem dX10_pages_113 : decode cX10_pages 113 = .ok (.istore 7, 2) := by decide +kernel
theorem dX10_pages_115 : decode cX10_pages 115 = .ok (.iconst 0, 1) := by decide +kernel
theorem dX10_pages_116 : decode cX10_pages 116 = .ok (.istore 8, 2) := by decide +kernel
theorem dX10_pages_118 : decode cX10_pages 118 = .ok (.iconst 0, 1) := by decide +kernel
theorem dX10_pages_119 : decode cX10_pages 119 = .ok (.istore 9, 2) := by decide +kernel
theorem dX10_pages_121 : decode cX10_pages 121 = .ok (.iload 6, 2) := by decide +kernel
theorem dX10_pages_123 : decode cX10_pages 123 = .ok (.aload_n 0, 1) := by decide +kernel
theorem dX10_pages_124 : decode cX10_pages 124 = .ok (.getfield 69, 3) := by decide +kernel
theorem dX10_pages_127 : decode cX10_pages 127 = .ok (.if_icmp .ge 360, 3) := by decide +kernel
theorem dX10_pages_130 : decode cX10_pages 130 = .ok (.aload_n 0, 1) := by decide +kernel
theorem dX10_pages_131 : decode cX10_pages 131 = .ok (.getfield 84, 3) := by decide +kernel
theorem dX10_pages_134 : decode cX10_pages 134 = .ok (.ifCond .ne 353, 3) := by decide +kernel
theorem dX10_pages_137 : decode cX10_pages 137 = .ok (.aload_n 0, 1) := by decide +kernel
theorem dX10_pages_138 : decode cX10_pages 138 = .ok (.getfield 81, 3) := by decide +kernel
theorem dX10_pages_141 : decode cX10_pages 141 = .ok (.istore 10, 2) := by decide +kernel
theorem dX10_pages_143 : decode cX10_pages 143 = .ok (.iload 7, 2) := by decide +kernel
theorem dX10_pages_145 : decode cX10_pages 145 = .ok (.ifCond .le 7, 3) := by decide +kernel
theorem dX10_pages_148 : decode cX10_pages 148 = .ok (.iconst 1, 1) := by decide +kernel
theorem dX10_pages_149 : decode cX10_pages 149 = .ok (.goto 4, 3) := by decide +kernel
theorem dX10_pages_152 : decode cX10_pages 152 = .ok (.iconst 0, 1) := by decide +kernel
theorem dX10_pages_153 : decode cX10_pages 153 = .ok (.istore 11, 2) := by decide +kernel
theorem dX10_pages_155 : decode cX10_pages 155 = .ok (.iload 6, 2) := by decide +kernel
theorem dX10_pages_157 : decode cX10_pages 157 = .ok (.istore 12, 2) := by decide +kernel
theorem dX10_pages_159 : decode cX10_pages 159 = .ok (.iload 7, 2) := by decide +kernel
theorem dX10_pages_161 : decode cX10_pages 161 = .ok (.istore 13, 2) := by decide +kernel
theorem dX10_pages_163 : decode cX10_pages 163 = .ok (.iload 8, 2) := by decide +kernel
theorem dX10_pages_165 : decode cX10_pages 165 = .ok (.istore 14, 2) := by decide +kernel
theorem dX10_pages_167 : decode cX10_pages 167 = .ok (.iconst 0, 1) := by decide +kernel
theorem dX10_pages_168 : decode cX10_pages 168 = .ok (.istore 15, 2) := by decide +kernel
theorem dX10_pages_170 : decode cX10_pages 170 = .ok (.iconst 0, 1) := by decide +kernel
theorem dX10_pages_171 : decode cX10_pages 171 = .ok (.istore 16, 2) := by decide +kernel
theorem dX10_pages_173 : decode cX10_pages 173 = .ok (.iconst 1, 1) := by decide +kernel
theorem dX10_pages_174 : decode cX10_pages 174 = .ok (.istore 17, 2) := by decide +kernel
theorem dX10_pages_176 : decode cX10_pages 176 = .ok (.iload 17, 2) := by decide +kernel
theorem dX10_pages_178 : decode cX10_pages 178 = .ok (.ifCond .eq 111, 3) := by decide +kernel
theorem dX10_pages_181 : decode cX10_pages 181 = .ok (.aload_n 0, 1) := by decide +kernel
theorem dX10_pages_182 : decode cX10_pages 182 = .ok (.getfield 19, 3) := by decide +kernel
theorem dX10_pages_185 : decode cX10_pages 185 = .ok (.iload 6, 2) := by decide +kernel
theorem dX10_pages_187 : decode cX10_pages 187 = .ok (.iaload, 1) := by decide +kernel
theorem dX10_pages_188 : decode cX10_pages 188 = .ok (.iload 7, 2) := by decide +kernel
theorem dX10_pages_190 : decode cX10_pages 190 = .ok (.isub, 1) := by decide +kernel
theorem dX10_pages_191 : decode cX10_pages 191 = .ok (.istore 18, 2) := by decide +kernel
theorem dX10_pages_193 : decode cX10_pages 193 = .ok (.iinc 15 1, 3) := by decide +kernel
theorem dX10_pages_196 : decode cX10_pages 196 = .ok (.iload 18, 2) := by decide +kernel
theorem dX10_pages_198 : decode cX10_pages 198 = .ok (.sipush 255, 3) := by decide +kernel
theorem dX10_pages_201 : decode cX10_pages 201 = .ok (.if_icmp .lt 12, 3) := by decide +kernel
theorem dX10_pages_204 : decode cX10_pages 204 = .ok (.iinc 7 255, 6) := by decide +kernel
theorem dX10_pages_210 : decode cX10_pages 210 = .ok (.goto 24, 3) := by decide +kernel
theorem dX10_pages_213 : decode cX10_pages 213 = .ok (.iload 8, 2) := by decide +kernel
theorem dX10_pages_215 : decode cX10_pages 215 = .ok (.aload_n 0, 1) := by decide +kernel
theorem dX10_pages_216 : decode cX10_pages 216 = .ok (.getfield 19, 3) := by decide +kernel
theorem dX10_pages_219 : decode cX10_pages 219 = .ok (.iload 6, 2) := by decide +kernel
theorem dX10_pages_221 : decode cX10_pages 221 = .ok (.iaload, 1) := by decide +kernel
theorem dX10_pages_222 : decode cX10_pages 222 = .ok (.iadd, 1) := by decide +kernel
theorem dX10_pages_223 : decode cX10_pages 223 = .ok (.istore 8, 2) := by decide +kernel
theorem dX10_pages_225 : decode cX10_pages 225 = .ok (.iinc 6 1, 3) := by decide +kernel
theorem dX10_pages_228 : decode cX10_pages 228 = .ok (.iinc 16 1, 3) := by decide +kernel
theorem dX10_pages_231 : decode cX10_pages 231 = .ok (.iconst 0, 1) := by decide +kernel
theorem dX10_pages_232 : decode cX10_pages 232 = .ok (.istore 7, 2) := by decide +kernel
theorem dX10_pages_234 : decode cX10_pages 234 = .ok (.iload 6, 2) := by decide +kernel
theorem dX10_pages_236 : decode cX10_pages 236 = .ok (.aload_n 0, 1) := by decide +kernel
theorem dX10_pages_237 : decode cX10_pages 237 = .ok (.getfield 69, 3) := by decide +kernel
theorem dX10_pages_240 : decode cX10_pages 240 = .ok (.if_icmp .ge 43, 3) := by decide +kernel
theorem dX10_pages_243 : decode cX10_pages 243 = .ok (.iload 15, 2) := by decide +kernel
theorem dX10_pages_245 : decode cX10_pages 245 = .ok (.iload_n 3, 1) := by decide +kernel
theorem dX10_pages_246 : decode cX10_pages 246 = .ok (.if_icmp .ge 37, 3) := by decide +kernel
theorem dX10_pages_249 : decode cX10_pages 249 = .ok (.iload 7, 2) := by decide +kernel
theorem dX10_pages_251 : decode cX10_pages 251 = .ok (.ifCond .ne 28, 3) := by decide +kernel
theorem dX10_pages_254 : decode cX10_pages 254 = .ok (.iload 16, 2) := by decide +kernel
theorem dX10_pages_256 : decode cX10_pages 256 = .ok (.ifCond .le 23, 3) := by decide +kernel
theorem dX10_pages_259 : decode cX10_pages 259 = .ok (.iload 18, 2) := by decide +kernel
theorem dX10_pages_261 : decode cX10_pages 261 = .ok (.sipush 255, 3) := by decide +kernel
theorem dX10_pages_264 : decode cX10_pages 264 = .ok (.if_icmp .ge 15, 3) := by decide +kernel
theorem dX10_pages_267 : decode cX10_pages 267 = .ok (.iload 16, 2) := by decide +kernel
theorem dX10_pages_269 : decode cX10_pages 269 = .ok (.iload_n 2, 1) := by decide +kernel
theorem dX10_pages_270 : decode cX10_pages 270 = .ok (.if_icmp .eq 13, 3) := by decide +kernel
theorem dX10_pages_273 : decode cX10_pages 273 = .ok (.iload 6, 2) := by decide +kernel
theorem dX10_pages_275 : decode cX10_pages 275 = .ok (.iconst 1, 1) := by decide +kernel
theorem dX10_pages_276 : decode cX10_pages 276 = .ok (.if_icmp .eq 7, 3) := by decide +kernel
theorem dX10_pages_279 : decode cX10_pages 279 = .ok (.iconst 1, 1) := by decide +kernel
theorem dX10_pages_280 : decode cX10_pages 280 = .ok (.goto 4, 3) := by decide +kernel
theorem dX10_pages_283 : decode cX10_pages 283 = .ok (.iconst 0, 1) := by decide +kernel
theorem dX10_pages_284 : decode cX10_pages 284 = .ok (.istore 17, 2) := by decide +kernel
theorem dX10_pages_286 : decode cX10_pages 286 = .ok (.goto (-110), 3) := by decide +kernel
theorem dX10_pages_289 : decode cX10_pages 289 = .ok (.aload_n 0, 1) := by decide +kernel
theorem dX10_pages_290 : decode cX10_pages 290 = .ok (.bipush 79, 2) := by decide +kernel
theorem dX10_pages_292 : decode cX10_pages 292 = .ok (.invokevirtual 88, 3) := by decide +kernel
theorem dX10_pages_295 : decode cX10_pages 295 = .ok (.aload_n 0, 1) := by decide +kernel
theorem dX10_pages_296 : decode cX10_pages 296 = .ok (.bipush 103, 2) := by decide +kernel
theorem dX10_pages_298 : decode cX10_pages 298 = .ok (.invokevirtual 88, 3) := by decide +kernel
theorem dX10_pages_301 : decode cX10_pages 301 = .ok (.aload_n 0, 1) := by decide +kernel
theorem dX10_pages_302 : decode cX10_pages 302 = .ok (.bipush 103, 2) := by decide +kernel
theorem dX10_pages_304 : decode cX10_pages 304 = .ok (.invokevirtual 88, 3) := by decide +kernel
theorem dX10_pages_307 : decode cX10_pages 307 = .ok (.aload_n 0, 1) := by decide +kernel
theorem dX10_pages_308 : decode cX10_pages 308 = .ok (.bipush 83, 2) := by decide +kernel
theorem dX10_pages_310 : decode cX10_pages 310 = .ok (.invokevirtual 88, 3) := by decide +kernel
theorem dX10_pages_313 : decode cX10_pages 313 = .ok (.aload_n 0, 1) := by decide +kernel
theorem dX10_pages_314 : decode cX10_pages 314 = .ok (.iconst 0, 1) := by decide +kernel
theorem dX10_pages_315 : decode cX10_pages 315 = .ok (.invokevirtual 88, 3) := by decide +kernel
theorem dX10_pages_318 : decode cX10_pages 318 = .ok (.aload_n 0, 1) := by decide +kernel
theorem dX10_pages_319 : decode cX10_pages 319 = .ok (.iload 11, 2) := by decide +kernel
theorem dX10_pages_321 : decode cX10_pages 321 = .ok (.ifCond .eq 7, 3) := by decide +kernel
theorem dX10_pages_324 : decode cX10_pages 324 = .ok (.iconst 1, 1) := by decide +kernel
theorem dX10_pages_325 : decode cX10_pages 325 = .ok (.goto 4, 3) := by decide +kernel
theorem dX10_pages_328 : decode cX10_pages 328 = .ok (.iconst 0, 1) := by decide +kernel
theorem dX10_pages_329 : decode cX10_pages 329 = .ok (.iload 9, 2) := by decide +kernel
theorem dX10_pages_331 : decode cX10_pages 331 = .ok (.ifCond .ne 7, 3) := by decide +kernel
theorem dX10_pages_334 : decode cX10_pages 334 = .ok (.iconst 2, 1) := by decide +kernel
theorem dX10_pages_335 : decode cX10_pages 335 = .ok (.goto 4, 3) := by decide +kernel
theorem dX10_pages_338 : decode cX10_pages 338 = .ok (.iconst 0, 1) := by decide +kernel
theorem dX10_pages_339 : decode cX10_pages 339 = .ok (.iadd, 1) := by decide +kernel
theorem dX10_pages_340 : decode cX10_pages 340 = .ok (.iload 6, 2) := by decide +kernel
theorem dX10_pages_342 : decode cX10_pages 342 = .ok (.aload_n 0, 1) := by decide +kernel
theorem dX10_pages_343 : decode cX10_pages 343 = .ok (.getfield 69, 3) := by decide +kernel
theorem dX10_pages_346 : decode cX10_pages 346 = .ok (.if_icmp .ne 7, 3) := by decide +kernel
theorem dX10_pages_349 : decode cX10_pages 349 = .ok (.iconst 4, 1) := by decide +kernel
theorem dX10_pages_350 : decode cX10_pages 350 = .ok (.goto 4, 3) := by decide +kernel
theorem dX10_pages_353 : decode cX10_pages 353 = .ok (.iconst 0, 1) := by decide +kernel
theorem dX10_pages_354 : decode cX10_pages 354 = .ok (.iadd, 1) := by decide +kernel
theorem dX10_pages_355 : decode cX10_pages 355 = .ok (.invokevirtual 88, 3) := by decide +kernel
theorem dX10_pages_358 : decode cX10_pages 358 = .ok (.aload_n 0, 1) := by decide +kernel
theorem dX10_pages_359 : decode cX10_pages 359 = .ok (.iload 16, 2) := by decide +kernel
theorem dX10_pages_361 : decode cX10_pages 361 = .ok (.ifCond .ne 9, 3) := by decide +kernel
theorem dX10_pages_364 : decode cX10_pages 364 = .ok (.ldc2_w 65, 3) := by decide +kernel
theorem dX10_pages_367 : decode cX10_pages 367 = .ok (.goto 11, 3) := by decide +kernel
theorem dX10_pages_370 : decode cX10_pages 370 = .ok (.aload_n 0, 1) := by decide +kernel
theorem dX10_pages_371 : decode cX10_pages 371 = .ok (.iload 6, 2) := by decide +kernel
theorem dX10_pages_373 : decode cX10_pages 373 = .ok (.iconst 1, 1) := by decide +kernel
theorem dX10_pages_374 : decode cX10_pages 374 = .ok (.isub, 1) := by decide +kernel
theorem dX10_pages_375 : decode cX10_pages 375 = .ok (.invokevirtual 99, 3) := by decide +kernel
theorem dX10_pages_378 : decode cX10_pages 378 = .ok (.bipush 8, 2) := by decide +kernel
theorem dX10_pages_380 : decode cX10_pages 380 = .ok (.invokevirtual 103, 3) := by decide +kernel
theorem dX10_pages_383 : decode cX10_pages 383 = .ok (.aload_n 0, 1) := by decide +kernel
theorem dX10_pages_384 : decode cX10_pages 384 = .ok (.iload_n 1, 1) := by decide +kernel
theorem dX10_pages_385 : decode cX10_pages 385 = .ok (.i2l, 1) := by decide +kernel
theorem dX10_pages_386 : decode cX10_pages 386 = .ok (.iconst 4, 1) := by decide +kernel
theorem dX10_pages_387 : decode cX10_pages 387 = .ok (.invokevirtual 103, 3) := by decide +kernel
theorem dX10_pages_390 : decode cX10_pages 390 = .ok (.aload_n 0, 1) := by decide +kernel
theorem dX10_pages_391 : decode cX10_pages 391 = .ok (.iload 9, 2) := by decide +kernel
theorem dX10_pages_393 : decode cX10_pages 393 = .ok (.i2l, 1) := by decide +kernel
theorem dX10_pages_394 : decode cX10_pages 394 = .ok (.iconst 4, 1) := by decide +kernel
theorem dX10_pages_395 : decode cX10_pages 395 = .ok (.invokevirtual 103, 3) := by decide +kernel
theorem dX10_pages_398 : decode cX10_pages 398 = .ok (.aload_n 0, 1) := by decide +kernel
theorem dX10_pages_399 : decode cX10_pages 399 = .ok (.lconst 0, 1) := by decide +kernel
theorem dX10_pages_400 : decode cX10_pages 400 = .ok (.iconst 4, 1) := by decide +kernel
theorem dX10_pages_401 : decode cX10_pages 401 = .ok (.invokevirtual 103, 3) := by decide +kernel
theorem dX10_pages_404 : decode cX10_pages 404 = .ok (.aload_n 0, 1) := by decide +kernel
theorem dX10_pages_405 : decode cX10_pages 405 = .ok (.iload 15, 2) := by decide +kernel
theorem dX10_pages_407 : decode cX10_pages 407 = .ok (.invokevirtual 88, 3) := by decide +kernel
theorem dX10_pages_410 : decode cX10_pages 410 = .ok (.aload_n 0, 1) := by decide +kernel
theorem dX10_pages_411 : decode cX10_pages 411 = .ok (.iload 12, 2) := by decide +kernel
theorem dX10_pages_413 : decode cX10_pages 413 = .ok (.iload 13, 2) := by decide +kernel
theorem dX10_pages_415 : decode cX10_pages 415 = .ok (.iload 15, 2) := by decide +kernel
theorem dX10_pages_417 : decode cX10_pages 417 = .ok (.invokevirtual 107, 3) := by decide +kernel
theorem dX10_pages_420 : decode cX10_pages 420 = .ok (.iload 8, 2) := by decide +kernel
theorem dX10_pages_422 : decode cX10_pages 422 = .ok (.iload 7, 2) := by decide +kernel
theorem dX10_pages_424 : decode cX10_pages 424 = .ok (.iadd, 1) := by decide +kernel
theorem dX10_pages_425 : decode cX10_pages 425 = .ok (.istore 18, 2) := by decide +kernel
theorem dX10_pages_427 : decode cX10_pages 427 = .ok (.iload 14, 2) := by decide +kernel
theorem dX10_pages_429 : decode cX10_pages 429 = .ok (.iload 13, 2) := by decide +kernel
theorem dX10_pages_431 : decode cX10_pages 431 = .ok (.iadd, 1) := by decide +kernel
theorem dX10_pages_432 : decode cX10_pages 432 = .ok (.istore 19, 2) := by decide +kernel
theorem dX10_pages_434 : decode cX10_pages 434 = .ok (.iload 19, 2) := by decide +kernel
theorem dX10_pages_436 : decode cX10_pages 436 = .ok (.iload 18, 2) := by decide +kernel
theorem dX10_pages_438 : decode cX10_pages 438 = .ok (.if_icmp .ge 20, 3) := by decide +kernel
theorem dX10_pages_441 : decode cX10_pages 441 = .ok (.aload_n 0, 1) := by decide +kernel
theorem dX10_pages_442 : decode cX10_pages 442 = .ok (.aload_n 0, 1) := by decide +kernel
theorem dX10_pages_443 : decode cX10_pages 443 = .ok (.getfield 33, 3) := by decide +kernel
theorem dX10_pages_446 : decode cX10_pages 446 = .ok (.iload 19, 2) := by decide +kernel
theorem dX10_pages_448 : decode cX10_pages 448 = .ok (.baload, 1) := by decide +kernel
theorem dX10_pages_449 : decode cX10_pages 449 = .ok (.invokevirtual 88, 3) := by decide +kernel
theorem dX10_pages_452 : decode cX10_pages 452 = .ok (.iinc 19 1, 3) := by decide +kernel
theorem dX10_pages_455 : decode cX10_pages 455 = .ok (.goto (-21), 3) := by decide +kernel
theorem dX10_pages_458 : decode cX10_pages 458 = .ok (.aload_n 0, 1) := by decide +kernel
theorem dX10_pages_459 : decode cX10_pages 459 = .ok (.getfield 84, 3) := by decide +kernel
theorem dX10_pages_462 : decode cX10_pages 462 = .ok (.ifCond .ne 19, 3) := by decide +kernel
theorem dX10_pages_465 : decode cX10_pages 465 = .ok (.aload_n 0, 1) := by decide +kernel
theorem dX10_pages_466 : decode cX10_pages 466 = .ok (.getfield 16, 3) := by decide +kernel
theorem dX10_pages_469 : decode cX10_pages 469 = .ok (.iload 10, 2) := by decide +kernel
theorem dX10_pages_471 : decode cX10_pages 471 = .ok (.aload_n 0, 1) := by decide +kernel
theorem dX10_pages_472 : decode cX10_pages 472 = .ok (.getfield 81, 3) := by decide +kernel
theorem dX10_pages_475 : decode cX10_pages 475 = .ok (.iload 10, 2) := by decide +kernel
theorem dX10_pages_477 : decode cX10_pages 477 = .ok (.isub, 1) := by decide +kernel
theorem dX10_pages_478 : decode cX10_pages 478 = .ok (.invokestatic 111, 3) := by decide +kernel
theorem dX10_pages_481 : decode cX10_pages 481 = .ok (.iinc 9 1, 3) := by decide +kernel
theorem dX10_pages_484 : decode cX10_pages 484 = .ok (.goto (-363), 3) := by decide +kernel
theorem dX10_pages_487 : decode cX10_pages 487 = .ok (.aload_n 0, 1) := by decide +kernel
theorem dX10_pages_488 : decode cX10_pages 488 = .ok (.invokevirtual 115, 3) := by decide +kernel
theorem dX10_pages_491 : decode cX10_pages 491 = .ok (.ireturn, 1) := by decide +kernel
set_option maxRecDepth 20000 in
theorem ggX10_segmentsFrom_X10_put : GoodIn wsX10_segmentsFrom wsX10_put := goodIn_r _ [6, 7, 8, 9, 10, 11, 12, 13, 14, 15, 16, 17, 18, 19, 20, 21, 22, 23, 24, 25, 26, 27, 28, 29, 30, 31, 32, 33, 34, 35, 36, 37, 38, 39, 40, 41, 42, 43, 44, 45, 46, 47, 48, 49, 50, 51, 52, 53, 54, 55] (by decide +kernel) (by decide +kernel)
set_option maxRecDepth 20000 in
theorem gX10_segmentsFrom_X10_put : GoodIn wsX10_segmentsFrom (wsV RX10 88 RX10 yX10_put wsX10_put) := goodIn_app (goodIn_of _ (by decide +kernel)) ggX10_segmentsFrom_X10_put
theorem dX10_segmentsFrom_0 : decode cX10_segmentsFrom 0 = .ok (.iload_n 1, 1) := by decide +kernel
theorem dX10_segmentsFrom_1 : decode cX10_segmentsFrom 1 = .ok (.istore 4, 2) := by decide +kernel
theorem dX10_segmentsFrom_3 : decode cX10_segmentsFrom 3 = .ok (.iload_n 2, 1) := by decide +kernel
theorem dX10_segmentsFrom_4 : decode cX10_segmentsFrom 4 = .ok (.istore 5, 2) := by decide +kernel
theorem dX10_segmentsFrom_6 : decode cX10_segmentsFrom 6 = .ok (.iconst 0, 1) := by decide +kernel
theorem dX10_segmentsFrom_7 : decode cX10_segmentsFrom 7 = .ok (.istore 6, 2) := by decide +kernel
theorem dX10_segmentsFrom_9 : decode cX10_segmentsFrom 9 = .ok (.iload 6, 2) := by decide +kernel
theorem dX10_segmentsFrom_11 : decode cX10_segmentsFrom 11 = .ok (.iload_n 3, 1) := by decide +kernel
theorem dX10_segmentsFrom_12 : decode cX10_segmentsFrom 12 = .ok (.if_icmp .ge 64, 3) := by decide +kernel
theorem dX10_segmentsFrom_15 : decode cX10_segmentsFrom 15 = .ok (.aload_n 0, 1) := by decide +kernel
theorem dX10_segmentsFrom_16 : decode cX10_segmentsFrom 16 = .ok (.getfield 19, 3) := by decide +kernel
theorem dX10_segmentsFrom_19 : decode cX10_segmentsFrom 19 = .ok (.iload 4, 2) := by decide +kernel
theorem dX10_segmentsFrom_21 : decode cX10_segmentsFrom 21 = .ok (.iaload, 1) := by decide +kernel
theorem dX10_segmentsFrom_22 : decode cX10_segmentsFrom 22 = .ok (.iload 5, 2) := by decide +kernel
theorem dX10_segmentsFrom_24 : decode cX10_segmentsFrom 24 = .ok (.isub, 1) := by decide +kernel
theorem dX10_segmentsFrom_25 : decode cX10_segmentsFrom 25 = .ok (.istore 7, 2) := by decide +kernel
theorem dX10_segmentsFrom_27 : decode cX10_segmentsFrom 27 = .ok (.aload_n 0, 1) := by decide +kernel
theorem dX10_segmentsFrom_28 : decode cX10_segmentsFrom 28 = .ok (.iload 7, 2) := by decide +kernel
theorem dX10_segmentsFrom_30 : decode cX10_segmentsFrom 30 = .ok (.sipush 255, 3) := by decide +kernel
theorem dX10_segmentsFrom_33 : decode cX10_segmentsFrom 33 = .ok (.if_icmp .lt 9, 3) := by decide +kernel
theorem dX10_segmentsFrom_36 : decode cX10_segmentsFrom 36 = .ok (.sipush 255, 3) := by decide +kernel
theorem dX10_segmentsFrom_39 : decode cX10_segmentsFrom 39 = .ok (.goto 5, 3) := by decide +kernel
theorem dX10_segmentsFrom_42 : decode cX10_segmentsFrom 42 = .ok (.iload 7, 2) := by decide +kernel
theorem dX10_segmentsFrom_44 : decode cX10_segmentsFrom 44 = .ok (.invokevirtual 88, 3) := by decide +kernel
theorem dX10_segmentsFrom_47 : decode cX10_segmentsFrom 47 = .ok (.iinc 5 255, 6) := by decide +kernel
theorem dX10_segmentsFrom_53 : decode cX10_segmentsFrom 53 = .ok (.iload 7, 2) := by decide +kernel
theorem dX10_segmentsFrom_55 : decode cX10_segmentsFrom 55 = .ok (.sipush 255, 3) := by decide +kernel
theorem dX10_segmentsFrom_58 : decode cX10_segmentsFrom 58 = .ok (.if_icmp .lt 6, 3) := by decide +kernel
theorem dX10_segmentsFrom_61 : decode cX10_segmentsFrom 61 = .ok (.goto 9, 3) := by decide +kernel
theorem dX10_segmentsFrom_64 : decode cX10_segmentsFrom 64 = .ok (.iinc 4 1, 3) := by decide +kernel
theorem dX10_segmentsFrom_67 : decode cX10_segmentsFrom 67 = .ok (.iconst 0, 1) := by decide +kernel
theorem dX10_segmentsFrom_68 : decode cX10_segmentsFrom 68 = .ok (.istore 5, 2) := by decide +kernel
theorem dX10_segmentsFrom_70 : decode cX10_segmentsFrom 70 = .ok (.iinc 6 1, 3) := by decide +kernel
theorem dX10_segmentsFrom_73 : decode cX10_segmentsFrom 73 = .ok (.goto (-64), 3) := by decide +kernel
theorem dX10_segmentsFrom_76 : decode cX10_segmentsFrom 76 = .ok (.return_, 1) := by decide +kernel
theorem dX10_fails_0 : decode cX10_fails 0 = .ok (.aload_n 0, 1) := by decide +kernel
theorem dX10_fails_1 : decode cX10_fails 1 = .ok (.iload_n 1, 1) := by decide +kernel
theorem dX10_fails_2 : decode cX10_fails 2 = .ok (.putfield 119, 3) := by decide +kernel
theorem dX10_fails_5 : decode cX10_fails 5 = .ok (.aload_n 0, 1) := by decide +kernel
theorem dX10_fails_6 : decode cX10_fails 6 = .ok (.iload_n 2, 1) := by decide +kernel
theorem dX10_fails_7 : decode cX10_fails 7 = .ok (.putfield 122, 3) := by decide +kernel
theorem dX10_fails_10 : decode cX10_fails 10 = .ok (.iconst 0, 1) := by decide +kernel
theorem dX10_fails_11 : decode cX10_fails 11 = .ok (.ireturn, 1) := by decide +kernel
set_option maxRecDepth 20000 in
theorem ggX10_low_X10_at : GoodIn wsX10_low wsX10_at := goodIn_r _ [5, 6, 7, 8, 9, 10, 11, 12, 13, 14, 15, 16, 17, 18, 19, 20, 21, 22, 23, 24, 25, 26, 27, 28, 29, 30, 31, 32, 33, 34, 35, 36, 37, 38, 39, 40, 41, 42, 43, 44, 45, 46, 47, 48, 49, 50, 51, 52] (by decide +kernel) (by decide +kernel)
set_option maxRecDepth 20000 in
theorem gX10_low_X10_at : GoodIn wsX10_low (wsV RX10 125 RX10 yX10_at wsX10_at) := goodIn_app (goodIn_of _ (by decide +kernel)) ggX10_low_X10_at
theorem dX10_low_0 : decode cX10_low 0 = .ok (.lconst 0, 1) := by decide +kernel
theorem dX10_low_1 : decode cX10_low 1 = .ok (.lstore_n 3, 1) := by decide +kernel
theorem dX10_low_2 : decode cX10_low 2 = .ok (.iload_n 2, 1) := by decide +kernel
theorem dX10_low_3 : decode cX10_low 3 = .ok (.iconst 1, 1) := by decide +kernel
theorem dX10_low_4 : decode cX10_low 4 = .ok (.isub, 1) := by decide +kernel
theorem dX10_low_5 : decode cX10_low 5 = .ok (.istore 5, 2) := by decide +kernel
theorem dX10_low_7 : decode cX10_low 7 = .ok (.iload 5, 2) := by decide +kernel
theorem dX10_low_9 : decode cX10_low 9 = .ok (.ifCond .lt 24, 3) := by decide +kernel
theorem dX10_low_12 : decode cX10_low 12 = .ok (.lload_n 3, 1) := by decide +kernel
theorem dX10_low_13 : decode cX10_low 13 = .ok (.bipush 8, 2) := by decide +kernel
theorem dX10_low_15 : decode cX10_low 15 = .ok (.lshl, 1) := by decide +kernel
theorem dX10_low_16 : decode cX10_low 16 = .ok (.aload_n 0, 1) := by decide +kernel
theorem dX10_low_17 : decode cX10_low 17 = .ok (.iload_n 1, 1) := by decide +kernel
theorem dX10_low_18 : decode cX10_low 18 = .ok (.iload 5, 2) := by decide +kernel
theorem dX10_low_20 : decode cX10_low 20 = .ok (.iadd, 1) := by decide +kernel
theorem dX10_low_21 : decode cX10_low 21 = .ok (.invokevirtual 125, 3) := by decide +kernel
theorem dX10_low_24 : decode cX10_low 24 = .ok (.i2l, 1) := by decide +kernel
theorem dX10_low_25 : decode cX10_low 25 = .ok (.lor, 1) := by decide +kernel
theorem dX10_low_26 : decode cX10_low 26 = .ok (.lstore_n 3, 1) := by decide +kernel
theorem dX10_low_27 : decode cX10_low 27 = .ok (.iinc 5 (-1), 3) := by decide +kernel
theorem dX10_low_30 : decode cX10_low 30 = .ok (.goto (-23), 3) := by decide +kernel
theorem dX10_low_33 : decode cX10_low 33 = .ok (.lload_n 3, 1) := by decide +kernel
theorem dX10_low_34 : decode cX10_low 34 = .ok (.lreturn, 1) := by decide +kernel
theorem dX10_begin_0 : decode cX10_begin 0 = .ok (.aload_n 0, 1) := by decide +kernel
theorem dX10_begin_1 : decode cX10_begin 1 = .ok (.iconst 0, 1) := by decide +kernel
theorem dX10_begin_2 : decode cX10_begin 2 = .ok (.putfield 119, 3) := by decide +kernel
theorem dX10_begin_5 : decode cX10_begin 5 = .ok (.aload_n 0, 1) := by decide +kernel
theorem dX10_begin_6 : decode cX10_begin 6 = .ok (.iconst (-1), 1) := by decide +kernel
theorem dX10_begin_7 : decode cX10_begin 7 = .ok (.putfield 122, 3) := by decide +kernel
theorem dX10_begin_10 : decode cX10_begin 10 = .ok (.aload_n 0, 1) := by decide +kernel
theorem dX10_begin_11 : decode cX10_begin 11 = .ok (.iconst 0, 1) := by decide +kernel
theorem dX10_begin_12 : decode cX10_begin 12 = .ok (.putfield 75, 3) := by decide +kernel
theorem dX10_begin_15 : decode cX10_begin 15 = .ok (.aload_n 0, 1) := by decide +kernel
theorem dX10_begin_16 : decode cX10_begin 16 = .ok (.iconst 0, 1) := by decide +kernel
theorem dX10_begin_17 : decode cX10_begin 17 = .ok (.putfield 78, 3) := by decide +kernel
theorem dX10_begin_20 : decode cX10_begin 20 = .ok (.return_, 1) := by decide +kernel
set_option maxRecDepth 20000 in
theorem ggX10_ends_X10_takeList : GoodIn wsX10_ends wsX10_takeList := goodIn_r _ [10, 11, 5, 12, 13, 14, 15, 16, 17, 18, 19, 20, 21, 22, 23, 24, 25, 26, 27, 28, 29, 30, 31, 32, 33, 34, 35, 36, 37, 38, 39, 40, 41, 42, 43, 44, 45, 46, 47, 48, 49, 50, 51, 52, 53, 54, 55, 56, 57, 58, 59, 60, 61, 62, 63, 64, 65] (by decide +kernel) (by decide +kernel)
set_option maxRecDepth 20000 in
theorem gX10_ends_X10_takeList : GoodIn wsX10_ends (wsV RX10 132 RX10 yX10_takeList wsX10_takeList) := goodIn_app (goodIn_of _ (by decide +kernel)) ggX10_ends_X10_takeList
theorem dX10_ends_0 : decode cX10_ends 0 = .ok (.aload_n 0, 1) := by decide +kernel
theorem dX10_ends_1 : decode cX10_ends 1 = .ok (.aload_n 0, 1) := by decide +kernel
theorem dX10_ends_2 : decode cX10_ends 2 = .ok (.getfield 119, 3) := by decide +kernel
theorem dX10_ends_5 : decode cX10_ends 5 = .ok (.putfield 129, 3) := by decide +kernel
theorem dX10_ends_8 : decode cX10_ends 8 = .ok (.aload_n 0, 1) := by decide +kernel
theorem dX10_ends_9 : decode cX10_ends 9 = .ok (.aload_n 0, 1) := by decide +kernel
theorem dX10_ends_10 : decode cX10_ends 10 = .ok (.getfield 122, 3) := by decide +kernel
theorem dX10_ends_13 : decode cX10_ends 13 = .ok (.putfield 39, 3) := by decide +kernel
theorem dX10_ends_16 : decode cX10_ends 16 = .ok (.aload_n 0, 1) := by decide +kernel
theorem dX10_ends_17 : decode cX10_ends 17 = .ok (.getfield 119, 3) := by decide +kernel
theorem dX10_ends_20 : decode cX10_ends 20 = .ok (.ifCond .le 5, 3) := by decide +kernel
theorem dX10_ends_23 : decode cX10_ends 23 = .ok (.iconst (-1), 1) := by decide +kernel
theorem dX10_ends_24 : decode cX10_ends 24 = .ok (.ireturn, 1) := by decide +kernel
theorem dX10_ends_25 : decode cX10_ends 25 = .ok (.aload_n 0, 1) := by decide +kernel
theorem dX10_ends_26 : decode cX10_ends 26 = .ok (.invokevirtual 132, 3) := by decide +kernel
theorem dX10_ends_29 : decode cX10_ends 29 = .ok (.aload_n 0, 1) := by decide +kernel
theorem dX10_ends_30 : decode cX10_ends 30 = .ok (.getfield 69, 3) := by decide +kernel
theorem dX10_ends_33 : decode cX10_ends 33 = .ok (.ireturn, 1) := by decide +kernel
set_option maxRecDepth 20000 in
theorem ggX10_readPages_X10_begin : GoodIn wsX10_readPages wsX10_begin := goodIn_r _ [13, 7, 14, 15, 16, 75, 76, 77, 78, 79, 80, 81, 82, 83, 84, 85, 86, 87, 88, 89, 90, 91, 92, 93, 94, 95, 96, 97, 98, 99, 100, 101, 102, 103, 104, 105, 106, 107, 108, 109, 110, 111, 112, 113, 114, 115, 116, 117, 118, 119, 120] (by decide +kernel) (by decide +kernel)
set_option maxRecDepth 20000 in
theorem gX10_readPages_X10_begin : GoodIn wsX10_readPages (wsV RX10 135 RX10 yX10_begin wsX10_begin) := goodIn_app (goodIn_of _ (by decide +kernel)) ggX10_readPages_X10_begin
set_option maxRecDepth 20000 in
theorem ggX10_readPages_X10_fails : GoodIn wsX10_readPages wsX10_fails := goodIn_r _ [20, 7, 14, 75, 76, 77, 78, 79, 80, 81, 82, 83, 84, 85, 86, 87, 88, 89, 90, 91, 92, 93, 94, 95, 96, 97, 98, 99, 100, 101, 102, 103, 104, 105, 106, 107, 108, 109, 110, 111, 112, 113, 114, 115, 116, 117, 118, 119, 120] (by decide +kernel) (by decide +kernel)
set_option maxRecDepth 20000 in
theorem gX10_readPages_X10_fails : GoodIn wsX10_readPages (wsV RX10 151 RX10 yX10_fails wsX10_fails) := goodIn_app (goodIn_of _ (by decide +kernel)) ggX10_readPages_X10_fails
set_option maxRecDepth 20000 in
theorem ggX10_readPages_X10_page : GoodIn wsX10_readPages wsX10_page := goodIn_r _ [24, 25, 2, 4, 26, 27, 3, 17, 18, 19, 12, 20, 7, 14, 28, 29, 30, 31, 32, 33, 34, 35, 36, 37, 38, 39, 40, 41, 42, 43, 44, 45, 46, 47, 48, 49, 50, 51, 52, 53, 54, 55, 56, 6, 5, 15, 16, 57, 58, 59, 75, 76, 77, 78, 79, 80, 81, 82, 83, 84, 85, 86, 87, 88, 89, 90, 91, 92, 93, 94, 95, 96, 97, 98, 99, 100, 101, 102, 103, 104, 105, 106, 107, 108, 109, 110, 111, 112, 113, 114, 115, 116, 117, 118, 119, 120] (by decide +kernel) (by decide +kernel)
set_option maxRecDepth 20000 in
theorem gX10_readPages_X10_page : GoodIn wsX10_readPages (wsV RX10 155 RX10 yX10_page wsX10_page) := goodIn_app (goodIn_of _ (by decide +kernel)) ggX10_readPages_X10_page
set_option maxRecDepth 20000 in
theorem ggX10_readPages_X10_lengthOf : GoodIn wsX10_readPages wsX10_lengthOf := goodIn_r _ [43, 32, 33, 34, 12, 35, 25, 75, 76, 77, 78, 79, 80, 81, 82, 83, 84, 85, 86, 87, 88, 89, 90, 91, 92, 93, 94, 95, 96, 97, 98, 99, 100, 101, 102, 103, 104, 105, 106, 107, 108, 109, 110, 111, 112, 113, 114, 115, 116, 117, 118, 119, 120] (by decide +kernel) (by decide +kernel)
set_option maxRecDepth 20000 in
theorem gX10_readPages_X10_lengthOf : GoodIn wsX10_readPages (wsV RX10 158 RX10 yX10_lengthOf wsX10_lengthOf) := goodIn_app (goodIn_of _ (by decide +kernel)) ggX10_readPages_X10_lengthOf
set_option maxRecDepth 20000 in
theorem ggX10_readPages_X10_ends : GoodIn wsX10_readPages wsX10_ends := goodIn_r _ [63, 7, 64, 14, 65, 66, 67, 68, 69, 12, 70, 15, 16, 71, 72, 58, 73, 59, 74, 57, 75, 76, 77, 78, 79, 80, 81, 82, 83, 84, 85, 86, 87, 88, 89, 90, 91, 92, 93, 94, 95, 96, 97, 98, 99, 100, 101, 102, 103, 104, 105, 106, 107, 108, 109, 110, 111, 112, 113, 114, 115, 116, 117, 118, 119, 120] (by decide +kernel) (by decide +kernel)
set_option maxRecDepth 20000 in
theorem gX10_readPages_X10_ends : GoodIn wsX10_readPages (wsV RX10 164 RX10 yX10_ends wsX10_ends) := goodIn_app (goodIn_of _ (by decide +kernel)) ggX10_readPages_X10_ends
theorem dX10_readPages_0 : decode cX10_readPages 0 = .ok (.iload_n 1, 1) := by decide +kernel
theorem dX10_readPages_1 : decode cX10_readPages 1 = .ok (.ifCond .lt 11, 3) := by decide +kernel
theorem dX10_readPages_4 : decode cX10_readPages 4 = .ok (.iload_n 1, 1) := by decide +kernel
theorem dX10_readPages_5 : decode cX10_readPages 5 = .ok (.aload_n 0, 1) := by decide +kernel
theorem dX10_readPages_6 : decode cX10_readPages 6 = .ok (.getfield 58, 3) := by decide +kernel
theorem dX10_readPages_9 : decode cX10_readPages 9 = .ok (.if_icmp .le 6, 3) := by decide +kernel
theorem dX10_readPages_12 : decode cX10_readPages 12 = .ok (.bipush (-2), 2) := by decide +kernel
theorem dX10_readPages_14 : decode cX10_readPages 14 = .ok (.ireturn, 1) := by decide +kernel
theorem dX10_readPages_15 : decode cX10_readPages 15 = .ok (.aload_n 0, 1) := by decide +kernel
theorem dX10_readPages_16 : decode cX10_readPages 16 = .ok (.invokevirtual 135, 3) := by decide +kernel
theorem dX10_readPages_19 : decode cX10_readPages 19 = .ok (.aload_n 0, 1) := by decide +kernel
theorem dX10_readPages_20 : decode cX10_readPages 20 = .ok (.iconst 0, 1) := by decide +kernel
theorem dX10_readPages_21 : decode cX10_readPages 21 = .ok (.putfield 138, 3) := by decide +kernel
theorem dX10_readPages_24 : decode cX10_readPages 24 = .ok (.aload_n 0, 1) := by decide +kernel
theorem dX10_readPages_25 : decode cX10_readPages 25 = .ok (.iconst (-1), 1) := by decide +kernel
theorem dX10_readPages_26 : decode cX10_readPages 26 = .ok (.putfield 141, 3) := by decide +kernel
theorem dX10_readPages_29 : decode cX10_readPages 29 = .ok (.aload_n 0, 1) := by decide +kernel
theorem dX10_readPages_30 : decode cX10_readPages 30 = .ok (.iconst 0, 1) := by decide +kernel
theorem dX10_readPages_31 : decode cX10_readPages 31 = .ok (.putfield 144, 3) := by decide +kernel
theorem dX10_readPages_34 : decode cX10_readPages 34 = .ok (.aload_n 0, 1) := by decide +kernel
theorem dX10_readPages_35 : decode cX10_readPages 35 = .ok (.ldc2_w 65, 3) := by decide +kernel
theorem dX10_readPages_38 : decode cX10_readPages 38 = .ok (.putfield 147, 3) := by decide +kernel
theorem dX10_readPages_41 : decode cX10_readPages 41 = .ok (.iconst 0, 1) := by decide +kernel
theorem dX10_readPages_42 : decode cX10_readPages 42 = .ok (.istore_n 2, 1) := by decide +kernel
theorem dX10_readPages_43 : decode cX10_readPages 43 = .ok (.iload_n 1, 1) := by decide +kernel
theorem dX10_readPages_44 : decode cX10_readPages 44 = .ok (.ifCond .ne 10, 3) := by decide +kernel
theorem dX10_readPages_47 : decode cX10_readPages 47 = .ok (.aload_n 0, 1) := by decide +kernel
theorem dX10_readPages_48 : decode cX10_readPages 48 = .ok (.iconst 1, 1) := by decide +kernel
theorem dX10_readPages_49 : decode cX10_readPages 49 = .ok (.iconst 0, 1) := by decide +kernel
theorem dX10_readPages_50 : decode cX10_readPages 50 = .ok (.invokevirtual 151, 3) := by decide +kernel
theorem dX10_readPages_53 : decode cX10_readPages 53 = .ok (.istore_n 3, 1) := by decide +kernel
theorem dX10_readPages_54 : decode cX10_readPages 54 = .ok (.aload_n 0, 1) := by decide +kernel
theorem dX10_readPages_55 : decode cX10_readPages 55 = .ok (.getfield 119, 3) := by decide +kernel
theorem dX10_readPages_58 : decode cX10_readPages 58 = .ok (.ifCond .ne 28, 3) := by decide +kernel
theorem dX10_readPages_61 : decode cX10_readPages 61 = .ok (.iload_n 2, 1) := by decide +kernel
theorem dX10_readPages_62 : decode cX10_readPages 62 = .ok (.iload_n 1, 1) := by decide +kernel
theorem dX10_readPages_63 : decode cX10_readPages 63 = .ok (.if_icmp .ge 23, 3) := by decide +kernel
theorem dX10_readPages_66 : decode cX10_readPages 66 = .ok (.aload_n 0, 1) := by decide +kernel
theorem dX10_readPages_67 : decode cX10_readPages 67 = .ok (.iload_n 2, 1) := by decide +kernel
theorem dX10_readPages_68 : decode cX10_readPages 68 = .ok (.iload_n 1, 1) := by decide +kernel
theorem dX10_readPages_69 : decode cX10_readPages 69 = .ok (.invokevirtual 155, 3) := by decide +kernel
theorem dX10_readPages_72 : decode cX10_readPages 72 = .ok (.ifCond .eq (-18), 3) := by decide +kernel
theorem dX10_readPages_75 : decode cX10_readPages 75 = .ok (.iload_n 2, 1) := by decide +kernel
theorem dX10_readPages_76 : decode cX10_readPages 76 = .ok (.aload_n 0, 1) := by decide +kernel
theorem dX10_readPages_77 : decode cX10_readPages 77 = .ok (.iload_n 2, 1) := by decide +kernel
theorem dX10_readPages_78 : decode cX10_readPages 78 = .ok (.invokevirtual 158, 3) := by decide +kernel
theorem dX10_readPages_81 : decode cX10_readPages 81 = .ok (.iadd, 1) := by decide +kernel
theorem dX10_readPages_82 : decode cX10_readPages 82 = .ok (.istore_n 2, 1) := by decide +kernel
theorem dX10_readPages_83 : decode cX10_readPages 83 = .ok (.goto (-29), 3) := by decide +kernel
theorem dX10_readPages_86 : decode cX10_readPages 86 = .ok (.aload_n 0, 1) := by decide +kernel
theorem dX10_readPages_87 : decode cX10_readPages 87 = .ok (.getfield 119, 3) := by decide +kernel
theorem dX10_readPages_90 : decode cX10_readPages 90 = .ok (.ifCond .ne 17, 3) := by decide +kernel
theorem dX10_readPages_93 : decode cX10_readPages 93 = .ok (.aload_n 0, 1) := by decide +kernel
theorem dX10_readPages_94 : decode cX10_readPages 94 = .ok (.getfield 144, 3) := by decide +kernel
theorem dX10_readPages_97 : decode cX10_readPages 97 = .ok (.ifCond .ne 10, 3) := by decide +kernel
theorem dX10_readPages_100 : decode cX10_readPages 100 = .ok (.aload_n 0, 1) := by decide +kernel
theorem dX10_readPages_101 : decode cX10_readPages 101 = .ok (.iconst 5, 1) := by decide +kernel
theorem dX10_readPages_102 : decode cX10_readPages 102 = .ok (.iload_n 1, 1) := by decide +kernel
theorem dX10_readPages_103 : decode cX10_readPages 103 = .ok (.invokevirtual 151, 3) := by decide +kernel
theorem dX10_readPages_106 : decode cX10_readPages 106 = .ok (.istore_n 3, 1) := by decide +kernel
theorem dX10_readPages_107 : decode cX10_readPages 107 = .ok (.aload_n 0, 1) := by decide +kernel
theorem dX10_readPages_108 : decode cX10_readPages 108 = .ok (.getfield 119, 3) := by decide +kernel
theorem dX10_readPages_111 : decode cX10_readPages 111 = .ok (.ifCond .ne 19, 3) := by decide +kernel
theorem dX10_readPages_114 : decode cX10_readPages 114 = .ok (.aload_n 0, 1) := by decide +kernel
theorem dX10_readPages_115 : decode cX10_readPages 115 = .ok (.getfield 141, 3) := by decide +kernel
theorem dX10_readPages_118 : decode cX10_readPages 118 = .ok (.iconst (-1), 1) := by decide +kernel
theorem dX10_readPages_119 : decode cX10_readPages 119 = .ok (.if_icmp .eq 11, 3) := by decide +kernel
theorem dX10_readPages_122 : decode cX10_readPages 122 = .ok (.aload_n 0, 1) := by decide +kernel
theorem dX10_readPages_123 : decode cX10_readPages 123 = .ok (.bipush 6, 2) := by decide +kernel
theorem dX10_readPages_125 : decode cX10_readPages 125 = .ok (.iload_n 1, 1) := by decide +kernel
theorem dX10_readPages_126 : decode cX10_readPages 126 = .ok (.invokevirtual 151, 3) := by decide +kernel
theorem dX10_readPages_129 : decode cX10_readPages 129 = .ok (.istore_n 3, 1) := by decide +kernel
theorem dX10_readPages_130 : decode cX10_readPages 130 = .ok (.aload_n 0, 1) := by decide +kernel
theorem dX10_readPages_131 : decode cX10_readPages 131 = .ok (.iconst 0, 1) := by decide +kernel
theorem dX10_readPages_132 : decode cX10_readPages 132 = .ok (.putfield 58, 3) := by decide +kernel
theorem dX10_readPages_135 : decode cX10_readPages 135 = .ok (.aload_n 0, 1) := by decide +kernel
theorem dX10_readPages_136 : decode cX10_readPages 136 = .ok (.aload_n 0, 1) := by decide +kernel
theorem dX10_readPages_137 : decode cX10_readPages 137 = .ok (.getfield 119, 3) := by decide +kernel
theorem dX10_readPages_140 : decode cX10_readPages 140 = .ok (.ifCond .ne 10, 3) := by decide +kernel
theorem dX10_readPages_143 : decode cX10_readPages 143 = .ok (.aload_n 0, 1) := by decide +kernel
theorem dX10_readPages_144 : decode cX10_readPages 144 = .ok (.getfield 138, 3) := by decide +kernel
theorem dX10_readPages_147 : decode cX10_readPages 147 = .ok (.goto 4, 3) := by decide +kernel
theorem dX10_readPages_150 : decode cX10_readPages 150 = .ok (.iconst 0, 1) := by decide +kernel
theorem dX10_readPages_151 : decode cX10_readPages 151 = .ok (.putfield 161, 3) := by decide +kernel
theorem dX10_readPages_154 : decode cX10_readPages 154 = .ok (.aload_n 0, 1) := by decide +kernel
theorem dX10_readPages_155 : decode cX10_readPages 155 = .ok (.iload_n 1, 1) := by decide +kernel
theorem dX10_readPages_156 : decode cX10_readPages 156 = .ok (.invokevirtual 164, 3) := by decide +kernel
theorem dX10_readPages_159 : decode cX10_readPages 159 = .ok (.ireturn, 1) := by decide +kernel
set_option maxRecDepth 20000 in
theorem ggX10_lengthOf_X10_at : GoodIn wsX10_lengthOf wsX10_at := goodIn_r _ [5, 6, 7, 8, 9, 10, 11, 12, 13, 14, 15, 16, 17, 18, 19, 20, 21, 22, 23, 24, 25, 26, 27, 28, 29, 30, 31, 32, 33, 34, 35, 36, 37, 38, 39, 40, 41, 42, 43, 44, 45, 46, 47, 48, 49, 50, 51, 52] (by decide +kernel) (by decide +kernel)
set_option maxRecDepth 20000 in
theorem gX10_lengthOf_X10_at : GoodIn wsX10_lengthOf (wsV RX10 125 RX10 yX10_at wsX10_at) := goodIn_app (goodIn_of _ (by decide +kernel)) ggX10_lengthOf_X10_at
theorem dX10_lengthOf_0 : decode cX10_lengthOf 0 = .ok (.bipush 27, 2) := by decide +kernel
theorem dX10_lengthOf_2 : decode cX10_lengthOf 2 = .ok (.aload_n 0, 1) := by decide +kernel
theorem dX10_lengthOf_3 : decode cX10_lengthOf 3 = .ok (.iload_n 1, 1) := by decide +kernel
theorem dX10_lengthOf_4 : decode cX10_lengthOf 4 = .ok (.bipush 26, 2) := by decide +kernel
theorem dX10_lengthOf_6 : decode cX10_lengthOf 6 = .ok (.iadd, 1) := by decide +kernel
theorem dX10_lengthOf_7 : decode cX10_lengthOf 7 = .ok (.invokevirtual 125, 3) := by decide +kernel
theorem dX10_lengthOf_10 : decode cX10_lengthOf 10 = .ok (.iadd, 1) := by decide +kernel
theorem dX10_lengthOf_11 : decode cX10_lengthOf 11 = .ok (.istore_n 2, 1) := by decide +kernel
theorem dX10_lengthOf_12 : decode cX10_lengthOf 12 = .ok (.iconst 0, 1) := by decide +kernel
theorem dX10_lengthOf_13 : decode cX10_lengthOf 13 = .ok (.istore_n 3, 1) := by decide +kernel
theorem dX10_lengthOf_14 : decode cX10_lengthOf 14 = .ok (.iload_n 3, 1) := by decide +kernel
theorem dX10_lengthOf_15 : decode cX10_lengthOf 15 = .ok (.aload_n 0, 1) := by decide +kernel
theorem dX10_lengthOf_16 : decode cX10_lengthOf 16 = .ok (.iload_n 1, 1) := by decide +kernel
theorem dX10_lengthOf_17 : decode cX10_lengthOf 17 = .ok (.bipush 26, 2) := by decide +kernel
theorem dX10_lengthOf_19 : decode cX10_lengthOf 19 = .ok (.iadd, 1) := by decide +kernel
theorem dX10_lengthOf_20 : decode cX10_lengthOf 20 = .ok (.invokevirtual 125, 3) := by decide +kernel
theorem dX10_lengthOf_23 : decode cX10_lengthOf 23 = .ok (.if_icmp .ge 22, 3) := by decide +kernel
theorem dX10_lengthOf_26 : decode cX10_lengthOf 26 = .ok (.iload_n 2, 1) := by decide +kernel
theorem dX10_lengthOf_27 : decode cX10_lengthOf 27 = .ok (.aload_n 0, 1) := by decide +kernel
theorem dX10_lengthOf_28 : decode cX10_lengthOf 28 = .ok (.iload_n 1, 1) := by decide +kernel
theorem dX10_lengthOf_29 : decode cX10_lengthOf 29 = .ok (.bipush 27, 2) := by decide +kernel
theorem dX10_lengthOf_31 : decode cX10_lengthOf 31 = .ok (.iadd, 1) := by decide +kernel
theorem dX10_lengthOf_32 : decode cX10_lengthOf 32 = .ok (.iload_n 3, 1) := by decide +kernel
theorem dX10_lengthOf_33 : decode cX10_lengthOf 33 = .ok (.iadd, 1) := by decide +kernel
theorem dX10_lengthOf_34 : decode cX10_lengthOf 34 = .ok (.invokevirtual 125, 3) := by decide +kernel
theorem dX10_lengthOf_37 : decode cX10_lengthOf 37 = .ok (.iadd, 1) := by decide +kernel
theorem dX10_lengthOf_38 : decode cX10_lengthOf 38 = .ok (.istore_n 2, 1) := by decide +kernel
theorem dX10_lengthOf_39 : decode cX10_lengthOf 39 = .ok (.iinc 3 1, 3) := by decide +kernel
theorem dX10_lengthOf_42 : decode cX10_lengthOf 42 = .ok (.goto (-28), 3) := by decide +kernel
theorem dX10_lengthOf_45 : decode cX10_lengthOf 45 = .ok (.iload_n 2, 1) := by decide +kernel
theorem dX10_lengthOf_46 : decode cX10_lengthOf 46 = .ok (.ireturn, 1) := by decide +kernel
set_option maxRecDepth 20000 in
theorem ggX10_isMark_X10_at : GoodIn wsX10_isMark wsX10_at := goodIn_r _ [5, 6, 7, 8, 9, 10, 11, 12, 13, 14, 15, 16, 17, 18, 19, 20, 21, 22, 23, 24, 25, 26, 27, 28, 29, 30, 31, 32, 33, 34, 35, 36, 37, 38, 39, 40, 41, 42, 43, 44, 45, 46, 47, 48, 49, 50, 51, 52] (by decide +kernel) (by decide +kernel)
set_option maxRecDepth 20000 in
theorem gX10_isMark_X10_at : GoodIn wsX10_isMark (wsV RX10 125 RX10 yX10_at wsX10_at) := goodIn_app (goodIn_of _ (by decide +kernel)) ggX10_isMark_X10_at
theorem dX10_isMark_0 : decode cX10_isMark 0 = .ok (.aload_n 0, 1) := by decide +kernel
theorem dX10_isMark_1 : decode cX10_isMark 1 = .ok (.iload_n 1, 1) := by decide +kernel
theorem dX10_isMark_2 : decode cX10_isMark 2 = .ok (.invokevirtual 125, 3) := by decide +kernel
theorem dX10_isMark_5 : decode cX10_isMark 5 = .ok (.bipush 79, 2) := by decide +kernel
theorem dX10_isMark_7 : decode cX10_isMark 7 = .ok (.if_icmp .ne 43, 3) := by decide +kernel
theorem dX10_isMark_10 : decode cX10_isMark 10 = .ok (.aload_n 0, 1) := by decide +kernel
theorem dX10_isMark_11 : decode cX10_isMark 11 = .ok (.iload_n 1, 1) := by decide +kernel
theorem dX10_isMark_12 : decode cX10_isMark 12 = .ok (.iconst 1, 1) := by decide +kernel
theorem dX10_isMark_13 : decode cX10_isMark 13 = .ok (.iadd, 1) := by decide +kernel
theorem dX10_isMark_14 : decode cX10_isMark 14 = .ok (.invokevirtual 125, 3) := by decide +kernel
theorem dX10_isMark_17 : decode cX10_isMark 17 = .ok (.bipush 103, 2) := by decide +kernel
theorem dX10_isMark_19 : decode cX10_isMark 19 = .ok (.if_icmp .ne 31, 3) := by decide +kernel
theorem dX10_isMark_22 : decode cX10_isMark 22 = .ok (.aload_n 0, 1) := by decide +kernel
theorem dX10_isMark_23 : decode cX10_isMark 23 = .ok (.iload_n 1, 1) := by decide +kernel
theorem dX10_isMark_24 : decode cX10_isMark 24 = .ok (.iconst 2, 1) := by decide +kernel
theorem dX10_isMark_25 : decode cX10_isMark 25 = .ok (.iadd, 1) := by decide +kernel
theorem dX10_isMark_26 : decode cX10_isMark 26 = .ok (.invokevirtual 125, 3) := by decide +kernel
theorem dX10_isMark_29 : decode cX10_isMark 29 = .ok (.bipush 103, 2) := by decide +kernel
theorem dX10_isMark_31 : decode cX10_isMark 31 = .ok (.if_icmp .ne 19, 3) := by decide +kernel
theorem dX10_isMark_34 : decode cX10_isMark 34 = .ok (.aload_n 0, 1) := by decide +kernel
theorem dX10_isMark_35 : decode cX10_isMark 35 = .ok (.iload_n 1, 1) := by decide +kernel
theorem dX10_isMark_36 : decode cX10_isMark 36 = .ok (.iconst 3, 1) := by decide +kernel
theorem dX10_isMark_37 : decode cX10_isMark 37 = .ok (.iadd, 1) := by decide +kernel
theorem dX10_isMark_38 : decode cX10_isMark 38 = .ok (.invokevirtual 125, 3) := by decide +kernel
theorem dX10_isMark_41 : decode cX10_isMark 41 = .ok (.bipush 83, 2) := by decide +kernel
theorem dX10_isMark_43 : decode cX10_isMark 43 = .ok (.if_icmp .ne 7, 3) := by decide +kernel
theorem dX10_isMark_46 : decode cX10_isMark 46 = .ok (.iconst 1, 1) := by decide +kernel
theorem dX10_isMark_47 : decode cX10_isMark 47 = .ok (.goto 4, 3) := by decide +kernel
theorem dX10_isMark_50 : decode cX10_isMark 50 = .ok (.iconst 0, 1) := by decide +kernel
theorem dX10_isMark_51 : decode cX10_isMark 51 = .ok (.ireturn, 1) := by decide +kernel
set_option maxRecDepth 20000 in
theorem ggX10_isWhole_X10_at : GoodIn wsX10_isWhole wsX10_at := goodIn_r _ [5, 6, 11, 12, 13, 14, 15, 16, 17, 18, 19, 20, 21, 22, 23, 24, 25, 26, 27, 28, 29, 30, 31, 32, 33, 34, 35, 36, 37, 38, 39, 40, 41, 42, 43, 44, 45, 46, 47, 48, 49, 50, 51, 52, 53, 54, 55, 56] (by decide +kernel) (by decide +kernel)
set_option maxRecDepth 20000 in
theorem gX10_isWhole_X10_at : GoodIn wsX10_isWhole (wsV RX10 125 RX10 yX10_at wsX10_at) := goodIn_app (goodIn_of _ (by decide +kernel)) ggX10_isWhole_X10_at
set_option maxRecDepth 20000 in
theorem ggX10_isWhole_X10_lengthOf : GoodIn wsX10_isWhole wsX10_lengthOf := goodIn_r _ [10, 1, 2, 3, 4, 5, 6, 11, 12, 13, 14, 15, 16, 17, 18, 19, 20, 21, 22, 23, 24, 25, 26, 27, 28, 29, 30, 31, 32, 33, 34, 35, 36, 37, 38, 39, 40, 41, 42, 43, 44, 45, 46, 47, 48, 49, 50, 51, 52, 53, 54, 55, 56] (by decide +kernel) (by decide +kernel)
set_option maxRecDepth 20000 in
theorem gX10_isWhole_X10_lengthOf : GoodIn wsX10_isWhole (wsV RX10 158 RX10 yX10_lengthOf wsX10_lengthOf) := goodIn_app (goodIn_of _ (by decide +kernel)) ggX10_isWhole_X10_lengthOf
theorem dX10_isWhole_0 : decode cX10_isWhole 0 = .ok (.iload_n 1, 1) := by decide +kernel
theorem dX10_isWhole_1 : decode cX10_isWhole 1 = .ok (.bipush 27, 2) := by decide +kernel
theorem dX10_isWhole_3 : decode cX10_isWhole 3 = .ok (.iadd, 1) := by decide +kernel
theorem dX10_isWhole_4 : decode cX10_isWhole 4 = .ok (.aload_n 0, 1) := by decide +kernel
theorem dX10_isWhole_5 : decode cX10_isWhole 5 = .ok (.iload_n 1, 1) := by decide +kernel
theorem dX10_isWhole_6 : decode cX10_isWhole 6 = .ok (.bipush 26, 2) := by decide +kernel
theorem dX10_isWhole_8 : decode cX10_isWhole 8 = .ok (.iadd, 1) := by decide +kernel
theorem dX10_isWhole_9 : decode cX10_isWhole 9 = .ok (.invokevirtual 125, 3) := by decide +kernel
theorem dX10_isWhole_12 : decode cX10_isWhole 12 = .ok (.iadd, 1) := by decide +kernel
theorem dX10_isWhole_13 : decode cX10_isWhole 13 = .ok (.iload_n 2, 1) := by decide +kernel
theorem dX10_isWhole_14 : decode cX10_isWhole 14 = .ok (.if_icmp .gt 18, 3) := by decide +kernel
theorem dX10_isWhole_17 : decode cX10_isWhole 17 = .ok (.iload_n 1, 1) := by decide +kernel
theorem dX10_isWhole_18 : decode cX10_isWhole 18 = .ok (.aload_n 0, 1) := by decide +kernel
theorem dX10_isWhole_19 : decode cX10_isWhole 19 = .ok (.iload_n 1, 1) := by decide +kernel
theorem dX10_isWhole_20 : decode cX10_isWhole 20 = .ok (.invokevirtual 158, 3) := by decide +kernel
theorem dX10_isWhole_23 : decode cX10_isWhole 23 = .ok (.iadd, 1) := by decide +kernel
theorem dX10_isWhole_24 : decode cX10_isWhole 24 = .ok (.iload_n 2, 1) := by decide +kernel
theorem dX10_isWhole_25 : decode cX10_isWhole 25 = .ok (.if_icmp .gt 7, 3) := by decide +kernel
theorem dX10_isWhole_28 : decode cX10_isWhole 28 = .ok (.iconst 1, 1) := by decide +kernel
theorem dX10_isWhole_29 : decode cX10_isWhole 29 = .ok (.goto 4, 3) := by decide +kernel
theorem dX10_isWhole_32 : decode cX10_isWhole 32 = .ok (.iconst 0, 1) := by decide +kernel
theorem dX10_isWhole_33 : decode cX10_isWhole 33 = .ok (.ireturn, 1) := by decide +kernel
set_option maxRecDepth 20000 in
theorem ggX10_page_X10_fails : GoodIn wsX10_page wsX10_fails := goodIn_r _ [11, 12, 13, 50, 51, 52, 53, 54, 55, 56, 57, 58, 59, 60, 61, 62, 63, 64, 65, 66, 67, 68, 69, 70, 71, 72, 73, 74, 75, 76, 77, 78, 79, 80, 81, 82, 83, 84, 85, 86, 87, 88, 89, 90, 91, 92, 93, 94, 95] (by decide +kernel) (by decide +kernel)
set_option maxRecDepth 20000 in
theorem gX10_page_X10_fails : GoodIn wsX10_page (wsV RX10 151 RX10 yX10_fails wsX10_fails) := goodIn_app (goodIn_of _ (by decide +kernel)) ggX10_page_X10_fails
set_option maxRecDepth 20000 in
theorem ggX10_page_X10_isMark : GoodIn wsX10_page wsX10_isMark := goodIn_r _ [17, 18, 19, 20, 10, 21, 1, 50, 51, 52, 53, 54, 55, 56, 57, 58, 59, 60, 61, 62, 63, 64, 65, 66, 67, 68, 69, 70, 71, 72, 73, 74, 75, 76, 77, 78, 79, 80, 81, 82, 83, 84, 85, 86, 87, 88, 89, 90, 91, 92, 93, 94, 95] (by decide +kernel) (by decide +kernel)
set_option maxRecDepth 20000 in
theorem gX10_page_X10_isMark : GoodIn wsX10_page (wsV RX10 167 RX10 yX10_isMark wsX10_isMark) := goodIn_app (goodIn_of _ (by decide +kernel)) ggX10_page_X10_isMark
set_option maxRecDepth 20000 in
theorem ggX10_page_X10_at : GoodIn wsX10_page wsX10_at := goodIn_r _ [21, 1, 50, 51, 52, 53, 54, 55, 56, 57, 58, 59, 60, 61, 62, 63, 64, 65, 66, 67, 68, 69, 70, 71, 72, 73, 74, 75, 76, 77, 78, 79, 80, 81, 82, 83, 84, 85, 86, 87, 88, 89, 90, 91, 92, 93, 94, 95] (by decide +kernel) (by decide +kernel)
set_option maxRecDepth 20000 in
theorem gX10_page_X10_at : GoodIn wsX10_page (wsV RX10 125 RX10 yX10_at wsX10_at) := goodIn_app (goodIn_of _ (by decide +kernel)) ggX10_page_X10_at
set_option maxRecDepth 20000 in
theorem ggX10_page_X10_isWhole : GoodIn wsX10_page wsX10_isWhole := goodIn_r _ [25, 18, 19, 20, 10, 21, 1, 26, 27, 28, 29, 50, 51, 52, 53, 54, 55, 56, 57, 58, 59, 60, 61, 62, 63, 64, 65, 66, 67, 68, 69, 70, 71, 72, 73, 74, 75, 76, 77, 78, 79, 80, 81, 82, 83, 84, 85, 86, 87, 88, 89, 90, 91, 92, 93, 94, 95] (by decide +kernel) (by decide +kernel)
set_option maxRecDepth 20000 in
theorem gX10_page_X10_isWhole : GoodIn wsX10_page (wsV RX10 171 RX10 yX10_isWhole wsX10_isWhole) := goodIn_app (goodIn_of _ (by decide +kernel)) ggX10_page_X10_isWhole
set_option maxRecDepth 20000 in
theorem ggX10_page_X10_lengthOf : GoodIn wsX10_page wsX10_lengthOf := goodIn_r _ [29, 18, 19, 20, 10, 21, 1, 50, 51, 52, 53, 54, 55, 56, 57, 58, 59, 60, 61, 62, 63, 64, 65, 66, 67, 68, 69, 70, 71, 72, 73, 74, 75, 76, 77, 78, 79, 80, 81, 82, 83, 84, 85, 86, 87, 88, 89, 90, 91, 92, 93, 94, 95] (by decide +kernel) (by decide +kernel)
set_option maxRecDepth 20000 in
theorem gX10_page_X10_lengthOf : GoodIn wsX10_page (wsV RX10 158 RX10 yX10_lengthOf wsX10_lengthOf) := goodIn_app (goodIn_of _ (by decide +kernel)) ggX10_page_X10_lengthOf
set_option maxRecDepth 20000 in
theorem ggX10_page_X10_low : GoodIn wsX10_page wsX10_low := goodIn_r _ [33, 18, 19, 20, 10, 21, 1, 50, 51, 52, 53, 54, 55, 56, 57, 58, 59, 60, 61, 62, 63, 64, 65, 66, 67, 68, 69, 70, 71, 72, 73, 74, 75, 76, 77, 78, 79, 80, 81, 82, 83, 84, 85, 86, 87, 88, 89, 90, 91, 92, 93, 94, 95] (by decide +kernel) (by decide +kernel)
set_option maxRecDepth 20000 in
theorem gX10_page_X10_low : GoodIn wsX10_page (wsV RX10 174 RX10 yX10_low wsX10_low) := goodIn_app (goodIn_of _ (by decide +kernel)) ggX10_page_X10_low
set_option maxRecDepth 20000 in
theorem ggX10_page_X10_sumOf : GoodIn wsX10_page wsX10_sumOf := goodIn_r _ [36, 37] (by decide +kernel) (by decide +kernel)
set_option maxRecDepth 20000 in
theorem gX10_page_X10_sumOf : GoodIn wsX10_page (va_wsS RX10 95 yX10_sumOf wsX10_sumOf) := goodIn_app (goodIn_of _ (by decide +kernel)) ggX10_page_X10_sumOf
set_option maxRecDepth 20000 in
theorem ggX10_page_X10_packets : GoodIn wsX10_page wsX10_packets := goodIn_r _ [41, 42, 43, 44, 6, 45, 46, 47, 1, 48, 49, 5, 4, 3, 2, 18, 19, 20, 10, 21, 30, 31, 32, 33, 7, 8, 9, 11, 12, 13, 50, 51, 52, 53, 54, 55, 56, 57, 58, 59, 60, 61, 62, 63, 64, 65, 66, 67, 68, 69, 70, 71, 72, 73, 74, 75, 76, 77, 78, 79, 80, 81, 82, 83, 84, 85, 86, 87, 88, 89, 90, 91, 92, 93, 94, 95] (by decide +kernel) (by decide +kernel)
set_option maxRecDepth 20000 in
theorem gX10_page_X10_packets : GoodIn wsX10_page (wsV RX10 184 RX10 yX10_packets wsX10_packets) := goodIn_app (goodIn_of _ (by decide +kernel)) ggX10_page_X10_packets
theorem dX10_page_0 : decode cX10_page 0 = .ok (.iload_n 2, 1) := by decide +kernel
theorem dX10_page_1 : decode cX10_page 1 = .ok (.iload_n 1, 1) := by decide +kernel
theorem dX10_page_2 : decode cX10_page 2 = .ok (.isub, 1) := by decide +kernel
theorem dX10_page_3 : decode cX10_page 3 = .ok (.bipush 27, 2) := by decide +kernel
theorem dX10_page_5 : decode cX10_page 5 = .ok (.if_icmp .ge 10, 3) := by decide +kernel
theorem dX10_page_8 : decode cX10_page 8 = .ok (.aload_n 0, 1) := by decide +kernel
theorem dX10_page_9 : decode cX10_page 9 = .ok (.iconst 1, 1) := by decide +kernel
theorem dX10_page_10 : decode cX10_page 10 = .ok (.iload_n 1, 1) := by decide +kernel
theorem dX10_page_11 : decode cX10_page 11 = .ok (.invokevirtual 151, 3) := by decide +kernel
theorem dX10_page_14 : decode cX10_page 14 = .ok (.ireturn, 1) := by decide +kernel
theorem dX10_page_15 : decode cX10_page 15 = .ok (.aload_n 0, 1) := by decide +kernel
theorem dX10_page_16 : decode cX10_page 16 = .ok (.iload_n 1, 1) := by decide +kernel
theorem dX10_page_17 : decode cX10_page 17 = .ok (.invokevirtual 167, 3) := by decide +kernel
theorem dX10_page_20 : decode cX10_page 20 = .ok (.ifCond .ne 10, 3) := by decide +kernel
theorem dX10_page_23 : decode cX10_page 23 = .ok (.aload_n 0, 1) := by decide +kernel
theorem dX10_page_24 : decode cX10_page 24 = .ok (.iconst 2, 1) := by decide +kernel
theorem dX10_page_25 : decode cX10_page 25 = .ok (.iload_n 1, 1) := by decide +kernel
theorem dX10_page_26 : decode cX10_page 26 = .ok (.invokevirtual 151, 3) := by decide +kernel
theorem dX10_page_29 : decode cX10_page 29 = .ok (.ireturn, 1) := by decide +kernel
theorem dX10_page_30 : decode cX10_page 30 = .ok (.aload_n 0, 1) := by decide +kernel
theorem dX10_page_31 : decode cX10_page 31 = .ok (.iload_n 1, 1) := by decide +kernel
theorem dX10_page_32 : decode cX10_page 32 = .ok (.iconst 5, 1) := by decide +kernel
theorem dX10_page_33 : decode cX10_page 33 = .ok (.iadd, 1) := by decide +kernel
theorem dX10_page_34 : decode cX10_page 34 = .ok (.invokevirtual 125, 3) := by decide +kernel
theorem dX10_page_37 : decode cX10_page 37 = .ok (.istore_n 3, 1) := by decide +kernel
theorem dX10_page_38 : decode cX10_page 38 = .ok (.aload_n 0, 1) := by decide +kernel
theorem dX10_page_39 : decode cX10_page 39 = .ok (.iload_n 1, 1) := by decide +kernel
theorem dX10_page_40 : decode cX10_page 40 = .ok (.iconst 4, 1) := by decide +kernel
theorem dX10_page_41 : decode cX10_page 41 = .ok (.iadd, 1) := by decide +kernel
theorem dX10_page_42 : decode cX10_page 42 = .ok (.invokevirtual 125, 3) := by decide +kernel
theorem dX10_page_45 : decode cX10_page 45 = .ok (.ifCond .ne 9, 3) := by decide +kernel
theorem dX10_page_48 : decode cX10_page 48 = .ok (.iload_n 3, 1) := by decide +kernel
theorem dX10_page_49 : decode cX10_page 49 = .ok (.bipush 7, 2) := by decide +kernel
theorem dX10_page_51 : decode cX10_page 51 = .ok (.if_icmp .le 10, 3) := by decide +kernel
theorem dX10_page_54 : decode cX10_page 54 = .ok (.aload_n 0, 1) := by decide +kernel
theorem dX10_page_55 : decode cX10_page 55 = .ok (.iconst 3, 1) := by decide +kernel
theorem dX10_page_56 : decode cX10_page 56 = .ok (.iload_n 1, 1) := by decide +kernel
theorem dX10_page_57 : decode cX10_page 57 = .ok (.invokevirtual 151, 3) := by decide +kernel
theorem dX10_page_60 : decode cX10_page 60 = .ok (.ireturn, 1) := by decide +kernel
theorem dX10_page_61 : decode cX10_page 61 = .ok (.aload_n 0, 1) := by decide +kernel
theorem dX10_page_62 : decode cX10_page 62 = .ok (.iload_n 1, 1) := by decide +kernel
theorem dX10_page_63 : decode cX10_page 63 = .ok (.iload_n 2, 1) := by decide +kernel
theorem dX10_page_64 : decode cX10_page 64 = .ok (.invokevirtual 171, 3) := by decide +kernel
theorem dX10_page_67 : decode cX10_page 67 = .ok (.ifCond .ne 10, 3) := by decide +kernel
theorem dX10_page_70 : decode cX10_page 70 = .ok (.aload_n 0, 1) := by decide +kernel
theorem dX10_page_71 : decode cX10_page 71 = .ok (.iconst 1, 1) := by decide +kernel
theorem dX10_page_72 : decode cX10_page 72 = .ok (.iload_n 1, 1) := by decide +kernel
theorem dX10_page_73 : decode cX10_page 73 = .ok (.invokevirtual 151, 3) := by decide +kernel
theorem dX10_page_76 : decode cX10_page 76 = .ok (.ireturn, 1) := by decide +kernel
theorem dX10_page_77 : decode cX10_page 77 = .ok (.aload_n 0, 1) := by decide +kernel
theorem dX10_page_78 : decode cX10_page 78 = .ok (.iload_n 1, 1) := by decide +kernel
theorem dX10_page_79 : decode cX10_page 79 = .ok (.invokevirtual 158, 3) := by decide +kernel
theorem dX10_page_82 : decode cX10_page 82 = .ok (.istore 4, 2) := by decide +kernel
theorem dX10_page_84 : decode cX10_page 84 = .ok (.aload_n 0, 1) := by decide +kernel
theorem dX10_page_85 : decode cX10_page 85 = .ok (.iload_n 1, 1) := by decide +kernel
theorem dX10_page_86 : decode cX10_page 86 = .ok (.bipush 22, 2) := by decide +kernel
theorem dX10_page_88 : decode cX10_page 88 = .ok (.iadd, 1) := by decide +kernel
theorem dX10_page_89 : decode cX10_page 89 = .ok (.iconst 4, 1) := by decide +kernel
theorem dX10_page_90 : decode cX10_page 90 = .ok (.invokevirtual 174, 3) := by decide +kernel
theorem dX10_page_93 : decode cX10_page 93 = .ok (.l2i, 1) := by decide +kernel
theorem dX10_page_94 : decode cX10_page 94 = .ok (.aload_n 0, 1) := by decide +kernel
theorem dX10_page_95 : decode cX10_page 95 = .ok (.getfield 7, 3) := by decide +kernel
theorem dX10_page_98 : decode cX10_page 98 = .ok (.iload_n 1, 1) := by decide +kernel
theorem dX10_page_99 : decode cX10_page 99 = .ok (.iload 4, 2) := by decide +kernel
theorem dX10_page_101 : decode cX10_page 101 = .ok (.invokestatic 95, 3) := by decide +kernel
theorem dX10_page_104 : decode cX10_page 104 = .ok (.if_icmp .eq 10, 3) := by decide +kernel
theorem dX10_page_107 : decode cX10_page 107 = .ok (.aload_n 0, 1) := by decide +kernel
theorem dX10_page_108 : decode cX10_page 108 = .ok (.iconst 4, 1) := by decide +kernel
theorem dX10_page_109 : decode cX10_page 109 = .ok (.iload_n 1, 1) := by decide +kernel
theorem dX10_page_110 : decode cX10_page 110 = .ok (.invokevirtual 151, 3) := by decide +kernel
theorem dX10_page_113 : decode cX10_page 113 = .ok (.ireturn, 1) := by decide +kernel
theorem dX10_page_114 : decode cX10_page 114 = .ok (.aload_n 0, 1) := by decide +kernel
theorem dX10_page_115 : decode cX10_page 115 = .ok (.iload_n 1, 1) := by decide +kernel
theorem dX10_page_116 : decode cX10_page 116 = .ok (.bipush 18, 2) := by decide +kernel
theorem dX10_page_118 : decode cX10_page 118 = .ok (.iadd, 1) := by decide +kernel
theorem dX10_page_119 : decode cX10_page 119 = .ok (.iconst 4, 1) := by decide +kernel
theorem dX10_page_120 : decode cX10_page 120 = .ok (.invokevirtual 174, 3) := by decide +kernel
theorem dX10_page_123 : decode cX10_page 123 = .ok (.l2i, 1) := by decide +kernel
theorem dX10_page_124 : decode cX10_page 124 = .ok (.istore 5, 2) := by decide +kernel
theorem dX10_page_126 : decode cX10_page 126 = .ok (.aload_n 0, 1) := by decide +kernel
theorem dX10_page_127 : decode cX10_page 127 = .ok (.iload_n 1, 1) := by decide +kernel
theorem dX10_page_128 : decode cX10_page 128 = .ok (.bipush 14, 2) := by decide +kernel
theorem dX10_page_130 : decode cX10_page 130 = .ok (.iadd, 1) := by decide +kernel
theorem dX10_page_131 : decode cX10_page 131 = .ok (.iconst 4, 1) := by decide +kernel
theorem dX10_page_132 : decode cX10_page 132 = .ok (.invokevirtual 174, 3) := by decide +kernel
theorem dX10_page_135 : decode cX10_page 135 = .ok (.l2i, 1) := by decide +kernel
theorem dX10_page_136 : decode cX10_page 136 = .ok (.istore 6, 2) := by decide +kernel
theorem dX10_page_138 : decode cX10_page 138 = .ok (.aload_n 0, 1) := by decide +kernel
theorem dX10_page_139 : decode cX10_page 139 = .ok (.getfield 138, 3) := by decide +kernel
theorem dX10_page_142 : decode cX10_page 142 = .ok (.ifCond .ne 7, 3) := by decide +kernel
theorem dX10_page_145 : decode cX10_page 145 = .ok (.iconst 1, 1) := by decide +kernel
theorem dX10_page_146 : decode cX10_page 146 = .ok (.goto 4, 3) := by decide +kernel
theorem dX10_page_149 : decode cX10_page 149 = .ok (.iconst 0, 1) := by decide +kernel
theorem dX10_page_150 : decode cX10_page 150 = .ok (.istore 7, 2) := by decide +kernel
theorem dX10_page_152 : decode cX10_page 152 = .ok (.aload_n 0, 1) := by decide +kernel
theorem dX10_page_153 : decode cX10_page 153 = .ok (.getfield 144, 3) := by decide +kernel
theorem dX10_page_156 : decode cX10_page 156 = .ok (.ifCond .ne 54, 3) := by decide +kernel
theorem dX10_page_159 : decode cX10_page 159 = .ok (.iload_n 3, 1) := by decide +kernel
theorem dX10_page_160 : decode cX10_page 160 = .ok (.iconst 2, 1) := by decide +kernel
theorem dX10_page_161 : decode cX10_page 161 = .ok (.iand, 1) := by decide +kernel
theorem dX10_page_162 : decode cX10_page 162 = .ok (.iconst 2, 1) := by decide +kernel
theorem dX10_page_163 : decode cX10_page 163 = .ok (.if_icmp .ne 7, 3) := by decide +kernel
theorem dX10_page_166 : decode cX10_page 166 = .ok (.iconst 1, 1) := by decide +kernel
theorem dX10_page_167 : decode cX10_page 167 = .ok (.goto 4, 3) := by decide +kernel
theorem dX10_page_170 : decode cX10_page 170 = .ok (.iconst 0, 1) := by decide +kernel
theorem dX10_page_171 : decode cX10_page 171 = .ok (.iload 7, 2) := by decide +kernel
theorem dX10_page_173 : decode cX10_page 173 = .ok (.if_icmp .ne 37, 3) := by decide +kernel
theorem dX10_page_176 : decode cX10_page 176 = .ok (.iload 5, 2) := by decide +kernel
theorem dX10_page_178 : decode cX10_page 178 = .ok (.iload 7, 2) := by decide +kernel
theorem dX10_page_180 : decode cX10_page 180 = .ok (.ifCond .eq 7, 3) := by decide +kernel
theorem dX10_page_183 : decode cX10_page 183 = .ok (.iconst 0, 1) := by decide +kernel
theorem dX10_page_184 : decode cX10_page 184 = .ok (.goto 9, 3) := by decide +kernel
theorem dX10_page_187 : decode cX10_page 187 = .ok (.aload_n 0, 1) := by decide +kernel
theorem dX10_page_188 : decode cX10_page 188 = .ok (.getfield 178, 3) := by decide +kernel
theorem dX10_page_191 : decode cX10_page 191 = .ok (.iconst 1, 1) := by decide +kernel
theorem dX10_page_192 : decode cX10_page 192 = .ok (.iadd, 1) := by decide +kernel
theorem dX10_page_193 : decode cX10_page 193 = .ok (.if_icmp .ne 17, 3) := by decide +kernel
theorem dX10_page_196 : decode cX10_page 196 = .ok (.iload 7, 2) := by decide +kernel
theorem dX10_page_198 : decode cX10_page 198 = .ok (.ifCond .ne 19, 3) := by decide +kernel
theorem dX10_page_201 : decode cX10_page 201 = .ok (.iload 6, 2) := by decide +kernel
theorem dX10_page_203 : decode cX10_page 203 = .ok (.aload_n 0, 1) := by decide +kernel
theorem dX10_page_204 : decode cX10_page 204 = .ok (.getfield 181, 3) := by decide +kernel
theorem dX10_page_207 : decode cX10_page 207 = .ok (.if_icmp .eq 10, 3) := by decide +kernel
theorem dX10_page_210 : decode cX10_page 210 = .ok (.aload_n 0, 1) := by decide +kernel
theorem dX10_page_211 : decode cX10_page 211 = .ok (.iconst 5, 1) := by decide +kernel
theorem dX10_page_212 : decode cX10_page 212 = .ok (.iload_n 1, 1) := by decide +kernel
theorem dX10_page_213 : decode cX10_page 213 = .ok (.invokevirtual 151, 3) := by decide +kernel
theorem dX10_page_216 : decode cX10_page 216 = .ok (.ireturn, 1) := by decide +kernel
theorem dX10_page_217 : decode cX10_page 217 = .ok (.iload_n 3, 1) := by decide +kernel
theorem dX10_page_218 : decode cX10_page 218 = .ok (.iconst 1, 1) := by decide +kernel
theorem dX10_page_219 : decode cX10_page 219 = .ok (.iand, 1) := by decide +kernel
theorem dX10_page_220 : decode cX10_page 220 = .ok (.iconst 1, 1) := by decide +kernel
theorem dX10_page_221 : decode cX10_page 221 = .ok (.if_icmp .ne 7, 3) := by decide +kernel
theorem dX10_page_224 : decode cX10_page 224 = .ok (.iconst 1, 1) := by decide +kernel
theorem dX10_page_225 : decode cX10_page 225 = .ok (.goto 4, 3) := by decide +kernel
theorem dX10_page_228 : decode cX10_page 228 = .ok (.iconst 0, 1) := by decide +kernel
theorem dX10_page_229 : decode cX10_page 229 = .ok (.aload_n 0, 1) := by decide +kernel
theorem dX10_page_230 : decode cX10_page 230 = .ok (.getfield 141, 3) := by decide +kernel
theorem dX10_page_233 : decode cX10_page 233 = .ok (.iconst (-1), 1) := by decide +kernel
theorem dX10_page_234 : decode cX10_page 234 = .ok (.if_icmp .eq 7, 3) := by decide +kernel
theorem dX10_page_237 : decode cX10_page 237 = .ok (.iconst 1, 1) := by decide +kernel
theorem dX10_page_238 : decode cX10_page 238 = .ok (.goto 4, 3) := by decide +kernel
theorem dX10_page_241 : decode cX10_page 241 = .ok (.iconst 0, 1) := by decide +kernel
theorem dX10_page_242 : decode cX10_page 242 = .ok (.if_icmp .eq 11, 3) := by decide +kernel
theorem dX10_page_245 : decode cX10_page 245 = .ok (.aload_n 0, 1) := by decide +kernel
theorem dX10_page_246 : decode cX10_page 246 = .ok (.bipush 6, 2) := by decide +kernel
theorem dX10_page_248 : decode cX10_page 248 = .ok (.iload_n 1, 1) := by decide +kernel
theorem dX10_page_249 : decode cX10_page 249 = .ok (.invokevirtual 151, 3) := by decide +kernel
theorem dX10_page_252 : decode cX10_page 252 = .ok (.ireturn, 1) := by decide +kernel
theorem dX10_page_253 : decode cX10_page 253 = .ok (.aload_n 0, 1) := by decide +kernel
theorem dX10_page_254 : decode cX10_page 254 = .ok (.iload_n 1, 1) := by decide +kernel
theorem dX10_page_255 : decode cX10_page 255 = .ok (.iload 4, 2) := by decide +kernel
theorem dX10_page_257 : decode cX10_page 257 = .ok (.iload 6, 2) := by decide +kernel
theorem dX10_page_259 : decode cX10_page 259 = .ok (.iload 5, 2) := by decide +kernel
theorem dX10_page_261 : decode cX10_page 261 = .ok (.iload_n 3, 1) := by decide +kernel
theorem dX10_page_262 : decode cX10_page 262 = .ok (.invokevirtual 184, 3) := by decide +kernel
theorem dX10_page_265 : decode cX10_page 265 = .ok (.ireturn, 1) := by decide +kernel
set_option maxRecDepth 20000 in
theorem ggX10_packets_X10_at : GoodIn wsX10_packets wsX10_at := goodIn_r _ [19, 8, 30, 31, 32, 33, 34, 35, 36, 37, 38, 39, 40, 41, 42, 43, 44, 45, 46, 47, 48, 49, 50, 51, 52, 53, 54, 55, 56, 57, 58, 59, 60, 61, 62, 63, 64, 65, 66, 67, 68, 69, 70, 71, 72, 73, 74, 75] (by decide +kernel) (by decide +kernel)
set_option maxRecDepth 20000 in
theorem gX10_packets_X10_at : GoodIn wsX10_packets (wsV RX10 125 RX10 yX10_at wsX10_at) := goodIn_app (goodIn_of _ (by decide +kernel)) ggX10_packets_X10_at
set_option maxRecDepth 20000 in
theorem ggX10_packets_X10_low : GoodIn wsX10_packets wsX10_low := goodIn_r _ [23, 15, 16, 17, 18, 19, 8, 30, 31, 32, 33, 34, 35, 36, 37, 38, 39, 40, 41, 42, 43, 44, 45, 46, 47, 48, 49, 50, 51, 52, 53, 54, 55, 56, 57, 58, 59, 60, 61, 62, 63, 64, 65, 66, 67, 68, 69, 70, 71, 72, 73, 74, 75] (by decide +kernel) (by decide +kernel)
set_option maxRecDepth 20000 in
theorem gX10_packets_X10_low : GoodIn wsX10_packets (wsV RX10 174 RX10 yX10_low wsX10_low) := goodIn_app (goodIn_of _ (by decide +kernel)) ggX10_packets_X10_low
set_option maxRecDepth 20000 in
theorem ggX10_packets_X10_fails : GoodIn wsX10_packets wsX10_fails := goodIn_r _ [27, 28, 29, 30, 31, 32, 33, 34, 35, 36, 37, 38, 39, 40, 41, 42, 43, 44, 45, 46, 47, 48, 49, 50, 51, 52, 53, 54, 55, 56, 57, 58, 59, 60, 61, 62, 63, 64, 65, 66, 67, 68, 69, 70, 71, 72, 73, 74, 75] (by decide +kernel) (by decide +kernel)
set_option maxRecDepth 20000 in
theorem gX10_packets_X10_fails : GoodIn wsX10_packets (wsV RX10 151 RX10 yX10_fails wsX10_fails) := goodIn_app (goodIn_of _ (by decide +kernel)) ggX10_packets_X10_fails
theorem dX10_packets_0 : decode cX10_packets 0 = .ok (.aload_n 0, 1) := by decide +kernel
theorem dX10_packets_1 : decode cX10_packets 1 = .ok (.iload_n 1, 1) := by decide +kernel
theorem dX10_packets_2 : decode cX10_packets 2 = .ok (.bipush 26, 2) := by decide +kernel
theorem dX10_packets_4 : decode cX10_packets 4 = .ok (.iadd, 1) := by decide +kernel
theorem dX10_packets_5 : decode cX10_packets 5 = .ok (.invokevirtual 125, 3) := by decide +kernel
theorem dX10_packets_8 : decode cX10_packets 8 = .ok (.istore 6, 2) := by decide +kernel
theorem dX10_packets_10 : decode cX10_packets 10 = .ok (.iconst 0, 1) := by decide +kernel
theorem dX10_packets_11 : decode cX10_packets 11 = .ok (.istore 7, 2) := by decide +kernel
theorem dX10_packets_13 : decode cX10_packets 13 = .ok (.iload_n 2, 1) := by decide +kernel
theorem dX10_packets_14 : decode cX10_packets 14 = .ok (.bipush 27, 2) := by decide +kernel
theorem dX10_packets_16 : decode cX10_packets 16 = .ok (.isub, 1) := by decide +kernel
theorem dX10_packets_17 : decode cX10_packets 17 = .ok (.iload 6, 2) := by decide +kernel
theorem dX10_packets_19 : decode cX10_packets 19 = .ok (.isub, 1) := by decide +kernel
theorem dX10_packets_20 : decode cX10_packets 20 = .ok (.istore 8, 2) := by decide +kernel
theorem dX10_packets_22 : decode cX10_packets 22 = .ok (.iconst 0, 1) := by decide +kernel
theorem dX10_packets_23 : decode cX10_packets 23 = .ok (.istore 9, 2) := by decide +kernel
theorem dX10_packets_25 : decode cX10_packets 25 = .ok (.iload 9, 2) := by decide +kernel
theorem dX10_packets_27 : decode cX10_packets 27 = .ok (.iload 6, 2) := by decide +kernel
theorem dX10_packets_29 : decode cX10_packets 29 = .ok (.if_icmp .ge 36, 3) := by decide +kernel
theorem dX10_packets_32 : decode cX10_packets 32 = .ok (.iload 7, 2) := by decide +kernel
theorem dX10_packets_34 : decode cX10_packets 34 = .ok (.aload_n 0, 1) := by decide +kernel
theorem dX10_packets_35 : decode cX10_packets 35 = .ok (.iload_n 1, 1) := by decide +kernel
theorem dX10_packets_36 : decode cX10_packets 36 = .ok (.bipush 27, 2) := by decide +kernel
theorem dX10_packets_38 : decode cX10_packets 38 = .ok (.iadd, 1) := by decide +kernel
theorem dX10_packets_39 : decode cX10_packets 39 = .ok (.iload 9, 2) := by decide +kernel
theorem dX10_packets_41 : decode cX10_packets 41 = .ok (.iadd, 1) := by decide +kernel
theorem dX10_packets_42 : decode cX10_packets 42 = .ok (.invokevirtual 125, 3) := by decide +kernel
theorem dX10_packets_45 : decode cX10_packets 45 = .ok (.sipush 255, 3) := by decide +kernel
theorem dX10_packets_48 : decode cX10_packets 48 = .ok (.if_icmp .ge 7, 3) := by decide +kernel
theorem dX10_packets_51 : decode cX10_packets 51 = .ok (.iconst 1, 1) := by decide +kernel
theorem dX10_packets_52 : decode cX10_packets 52 = .ok (.goto 4, 3) := by decide +kernel
theorem dX10_packets_55 : decode cX10_packets 55 = .ok (.iconst 0, 1) := by decide +kernel
theorem dX10_packets_56 : decode cX10_packets 56 = .ok (.iadd, 1) := by decide +kernel
theorem dX10_packets_57 : decode cX10_packets 57 = .ok (.istore 7, 2) := by decide +kernel
theorem dX10_packets_59 : decode cX10_packets 59 = .ok (.iinc 9 1, 3) := by decide +kernel
theorem dX10_packets_62 : decode cX10_packets 62 = .ok (.goto (-37), 3) := by decide +kernel
theorem dX10_packets_65 : decode cX10_packets 65 = .ok (.aload_n 0, 1) := by decide +kernel
theorem dX10_packets_66 : decode cX10_packets 66 = .ok (.iload_n 1, 1) := by decide +kernel
theorem dX10_packets_67 : decode cX10_packets 67 = .ok (.bipush 6, 2) := by decide +kernel
theorem dX10_packets_69 : decode cX10_packets 69 = .ok (.iadd, 1) := by decide +kernel
theorem dX10_packets_70 : decode cX10_packets 70 = .ok (.bipush 8, 2) := by decide +kernel
theorem dX10_packets_72 : decode cX10_packets 72 = .ok (.invokevirtual 174, 3) := by decide +kernel
theorem dX10_packets_75 : decode cX10_packets 75 = .ok (.lstore 9, 2) := by decide +kernel
theorem dX10_packets_77 : decode cX10_packets 77 = .ok (.iload 7, 2) := by decide +kernel
theorem dX10_packets_79 : decode cX10_packets 79 = .ok (.ifCond .le 32, 3) := by decide +kernel
theorem dX10_packets_82 : decode cX10_packets 82 = .ok (.lload 9, 2) := by decide +kernel
theorem dX10_packets_84 : decode cX10_packets 84 = .ok (.lconst 0, 1) := by decide +kernel
theorem dX10_packets_85 : decode cX10_packets 85 = .ok (.lcmp, 1) := by decide +kernel
theorem dX10_packets_86 : decode cX10_packets 86 = .ok (.ifCond .lt 34, 3) := by decide +kernel
theorem dX10_packets_89 : decode cX10_packets 89 = .ok (.lload 9, 2) := by decide +kernel
theorem dX10_packets_91 : decode cX10_packets 91 = .ok (.ldc2_w 67, 3) := by decide +kernel
theorem dX10_packets_94 : decode cX10_packets 94 = .ok (.lcmp, 1) := by decide +kernel
theorem dX10_packets_95 : decode cX10_packets 95 = .ok (.ifCond .gt 25, 3) := by decide +kernel
theorem dX10_packets_98 : decode cX10_packets 98 = .ok (.lload 9, 2) := by decide +kernel
theorem dX10_packets_100 : decode cX10_packets 100 = .ok (.aload_n 0, 1) := by decide +kernel
theorem dX10_packets_101 : decode cX10_packets 101 = .ok (.getfield 147, 3) := by decide +kernel
theorem dX10_packets_104 : decode cX10_packets 104 = .ok (.lcmp, 1) := by decide +kernel
theorem dX10_packets_105 : decode cX10_packets 105 = .ok (.ifCond .ge 23, 3) := by decide +kernel
theorem dX10_packets_108 : decode cX10_packets 108 = .ok (.goto 12, 3) := by decide +kernel
theorem dX10_packets_111 : decode cX10_packets 111 = .ok (.lload 9, 2) := by decide +kernel
theorem dX10_packets_113 : decode cX10_packets 113 = .ok (.ldc2_w 65, 3) := by decide +kernel
theorem dX10_packets_116 : decode cX10_packets 116 = .ok (.lcmp, 1) := by decide +kernel
theorem dX10_packets_117 : decode cX10_packets 117 = .ok (.ifCond .eq 11, 3) := by decide +kernel
theorem dX10_packets_120 : decode cX10_packets 120 = .ok (.aload_n 0, 1) := by decide +kernel
theorem dX10_packets_121 : decode cX10_packets 121 = .ok (.bipush 7, 2) := by decide +kernel
theorem dX10_packets_123 : decode cX10_packets 123 = .ok (.iload_n 1, 1) := by decide +kernel
theorem dX10_packets_124 : decode cX10_packets 124 = .ok (.invokevirtual 151, 3) := by decide +kernel
theorem dX10_packets_127 : decode cX10_packets 127 = .ok (.ireturn, 1) := by decide +kernel
theorem dX10_packets_128 : decode cX10_packets 128 = .ok (.aload_n 0, 1) := by decide +kernel
theorem dX10_packets_129 : decode cX10_packets 129 = .ok (.getfield 141, 3) := by decide +kernel
theorem dX10_packets_132 : decode cX10_packets 132 = .ok (.iconst (-1), 1) := by decide +kernel
theorem dX10_packets_133 : decode cX10_packets 133 = .ok (.if_icmp .ne 7, 3) := by decide +kernel
theorem dX10_packets_136 : decode cX10_packets 136 = .ok (.iconst 0, 1) := by decide +kernel
theorem dX10_packets_137 : decode cX10_packets 137 = .ok (.goto 7, 3) := by decide +kernel
theorem dX10_packets_140 : decode cX10_packets 140 = .ok (.aload_n 0, 1) := by decide +kernel
theorem dX10_packets_141 : decode cX10_packets 141 = .ok (.getfield 141, 3) := by decide +kernel
theorem dX10_packets_144 : decode cX10_packets 144 = .ok (.istore 11, 2) := by decide +kernel
theorem dX10_packets_146 : decode cX10_packets 146 = .ok (.aload_n 0, 1) := by decide +kernel
theorem dX10_packets_147 : decode cX10_packets 147 = .ok (.getfield 75, 3) := by decide +kernel
theorem dX10_packets_150 : decode cX10_packets 150 = .ok (.iload 7, 2) := by decide +kernel
theorem dX10_packets_152 : decode cX10_packets 152 = .ok (.iadd, 1) := by decide +kernel
theorem dX10_packets_153 : decode cX10_packets 153 = .ok (.bipush 64, 2) := by decide +kernel
theorem dX10_packets_155 : decode cX10_packets 155 = .ok (.if_icmp .gt 19, 3) := by decide +kernel
theorem dX10_packets_158 : decode cX10_packets 158 = .ok (.aload_n 0, 1) := by decide +kernel
theorem dX10_packets_159 : decode cX10_packets 159 = .ok (.getfield 78, 3) := by decide +kernel
theorem dX10_packets_162 : decode cX10_packets 162 = .ok (.iload 11, 2) := by decide +kernel
theorem dX10_packets_164 : decode cX10_packets 164 = .ok (.iadd, 1) := by decide +kernel
theorem dX10_packets_165 : decode cX10_packets 165 = .ok (.iload 8, 2) := by decide +kernel
theorem dX10_packets_167 : decode cX10_packets 167 = .ok (.iadd, 1) := by decide +kernel
theorem dX10_packets_168 : decode cX10_packets 168 = .ok (.sipush 2400, 3) := by decide +kernel
theorem dX10_packets_171 : decode cX10_packets 171 = .ok (.if_icmp .le 11, 3) := by decide +kernel
theorem dX10_packets_174 : decode cX10_packets 174 = .ok (.aload_n 0, 1) := by decide +kernel
theorem dX10_packets_175 : decode cX10_packets 175 = .ok (.bipush 8, 2) := by decide +kernel
theorem dX10_packets_177 : decode cX10_packets 177 = .ok (.iload_n 1, 1) := by decide +kernel
theorem dX10_packets_178 : decode cX10_packets 178 = .ok (.invokevirtual 151, 3) := by decide +kernel
theorem dX10_packets_181 : decode cX10_packets 181 = .ok (.ireturn, 1) := by decide +kernel
theorem dX10_packets_182 : decode cX10_packets 182 = .ok (.iconst 0, 1) := by decide +kernel
theorem dX10_packets_183 : decode cX10_packets 183 = .ok (.istore 12, 2) := by decide +kernel
theorem dX10_packets_185 : decode cX10_packets 185 = .ok (.iload 12, 2) := by decide +kernel
theorem dX10_packets_187 : decode cX10_packets 187 = .ok (.iload 8, 2) := by decide +kernel
theorem dX10_packets_189 : decode cX10_packets 189 = .ok (.if_icmp .ge 39, 3) := by decide +kernel
theorem dX10_packets_192 : decode cX10_packets 192 = .ok (.aload_n 0, 1) := by decide +kernel
theorem dX10_packets_193 : decode cX10_packets 193 = .ok (.getfield 36, 3) := by decide +kernel
theorem dX10_packets_196 : decode cX10_packets 196 = .ok (.aload_n 0, 1) := by decide +kernel
theorem dX10_packets_197 : decode cX10_packets 197 = .ok (.getfield 78, 3) := by decide +kernel
theorem dX10_packets_200 : decode cX10_packets 200 = .ok (.iload 11, 2) := by decide +kernel
theorem dX10_packets_202 : decode cX10_packets 202 = .ok (.iadd, 1) := by decide +kernel
theorem dX10_packets_203 : decode cX10_packets 203 = .ok (.iload 12, 2) := by decide +kernel
theorem dX10_packets_205 : decode cX10_packets 205 = .ok (.iadd, 1) := by decide +kernel
theorem dX10_packets_206 : decode cX10_packets 206 = .ok (.aload_n 0, 1) := by decide +kernel
theorem dX10_packets_207 : decode cX10_packets 207 = .ok (.getfield 7, 3) := by decide +kernel
theorem dX10_packets_210 : decode cX10_packets 210 = .ok (.iload_n 1, 1) := by decide +kernel
theorem dX10_packets_211 : decode cX10_packets 211 = .ok (.bipush 27, 2) := by decide +kernel
theorem dX10_packets_213 : decode cX10_packets 213 = .ok (.iadd, 1) := by decide +kernel
theorem dX10_packets_214 : decode cX10_packets 214 = .ok (.iload 6, 2) := by decide +kernel
theorem dX10_packets_216 : decode cX10_packets 216 = .ok (.iadd, 1) := by decide +kernel
theorem dX10_packets_217 : decode cX10_packets 217 = .ok (.iload 12, 2) := by decide +kernel
theorem dX10_packets_219 : decode cX10_packets 219 = .ok (.iadd, 1) := by decide +kernel
theorem dX10_packets_220 : decode cX10_packets 220 = .ok (.baload, 1) := by decide +kernel
theorem dX10_packets_221 : decode cX10_packets 221 = .ok (.bastore, 1) := by decide +kernel
theorem dX10_packets_222 : decode cX10_packets 222 = .ok (.iinc 12 1, 3) := by decide +kernel
theorem dX10_packets_225 : decode cX10_packets 225 = .ok (.goto (-40), 3) := by decide +kernel
theorem dX10_packets_228 : decode cX10_packets 228 = .ok (.iload 11, 2) := by decide +kernel
theorem dX10_packets_230 : decode cX10_packets 230 = .ok (.istore 12, 2) := by decide +kernel
theorem dX10_packets_232 : decode cX10_packets 232 = .ok (.aload_n 0, 1) := by decide +kernel
theorem dX10_packets_233 : decode cX10_packets 233 = .ok (.getfield 141, 3) := by decide +kernel
theorem dX10_packets_236 : decode cX10_packets 236 = .ok (.iconst (-1), 1) := by decide +kernel
theorem dX10_packets_237 : decode cX10_packets 237 = .ok (.if_icmp .eq 7, 3) := by decide +kernel
theorem dX10_packets_240 : decode cX10_packets 240 = .ok (.iconst 1, 1) := by decide +kernel
theorem dX10_packets_241 : decode cX10_packets 241 = .ok (.goto 4, 3) := by decide +kernel
theorem dX10_packets_244 : decode cX10_packets 244 = .ok (.iconst 0, 1) := by decide +kernel
theorem dX10_packets_245 : decode cX10_packets 245 = .ok (.istore 13, 2) := by decide +kernel
theorem dX10_packets_247 : decode cX10_packets 247 = .ok (.iconst 0, 1) := by decide +kernel
theorem dX10_packets_248 : decode cX10_packets 248 = .ok (.istore 14, 2) := by decide +kernel
theorem dX10_packets_250 : decode cX10_packets 250 = .ok (.iload 14, 2) := by decide +kernel
theorem dX10_packets_252 : decode cX10_packets 252 = .ok (.iload 6, 2) := by decide +kernel
theorem dX10_packets_254 : decode cX10_packets 254 = .ok (.if_icmp .ge 99, 3) := by decide +kernel
theorem dX10_packets_257 : decode cX10_packets 257 = .ok (.aload_n 0, 1) := by decide +kernel
theorem dX10_packets_258 : decode cX10_packets 258 = .ok (.iload_n 1, 1) := by decide +kernel
theorem dX10_packets_259 : decode cX10_packets 259 = .ok (.bipush 27, 2) := by decide +kernel
theorem dX10_packets_261 : decode cX10_packets 261 = .ok (.iadd, 1) := by decide +kernel
theorem dX10_packets_262 : decode cX10_packets 262 = .ok (.iload 14, 2) := by decide +kernel
theorem dX10_packets_264 : decode cX10_packets 264 = .ok (.iadd, 1) := by decide +kernel
theorem dX10_packets_265 : decode cX10_packets 265 = .ok (.invokevirtual 125, 3) := by decide +kernel
theorem dX10_packets_268 : decode cX10_packets 268 = .ok (.istore 15, 2) := by decide +kernel
theorem dX10_packets_270 : decode cX10_packets 270 = .ok (.iload 12, 2) := by decide +kernel
theorem dX10_packets_272 : decode cX10_packets 272 = .ok (.iload 15, 2) := by decide +kernel
theorem dX10_packets_274 : decode cX10_packets 274 = .ok (.iadd, 1) := by decide +kernel
theorem dX10_packets_275 : decode cX10_packets 275 = .ok (.istore 12, 2) := by decide +kernel
theorem dX10_packets_277 : decode cX10_packets 277 = .ok (.iload 15, 2) := by decide +kernel
theorem dX10_packets_279 : decode cX10_packets 279 = .ok (.sipush 255, 3) := by decide +kernel
theorem dX10_packets_282 : decode cX10_packets 282 = .ok (.if_icmp .ne 7, 3) := by decide +kernel
theorem dX10_packets_285 : decode cX10_packets 285 = .ok (.iconst 1, 1) := by decide +kernel
theorem dX10_packets_286 : decode cX10_packets 286 = .ok (.goto 4, 3) := by decide +kernel
theorem dX10_packets_289 : decode cX10_packets 289 = .ok (.iconst 0, 1) := by decide +kernel
theorem dX10_packets_290 : decode cX10_packets 290 = .ok (.istore 13, 2) := by decide +kernel
theorem dX10_packets_292 : decode cX10_packets 292 = .ok (.iload 13, 2) := by decide +kernel
theorem dX10_packets_294 : decode cX10_packets 294 = .ok (.ifCond .eq 6, 3) := by decide +kernel
theorem dX10_packets_297 : decode cX10_packets 297 = .ok (.goto 50, 3) := by decide +kernel
theorem dX10_packets_300 : decode cX10_packets 300 = .ok (.aload_n 0, 1) := by decide +kernel
theorem dX10_packets_301 : decode cX10_packets 301 = .ok (.getfield 23, 3) := by decide +kernel
theorem dX10_packets_304 : decode cX10_packets 304 = .ok (.aload_n 0, 1) := by decide +kernel
theorem dX10_packets_305 : decode cX10_packets 305 = .ok (.getfield 75, 3) := by decide +kernel
theorem dX10_packets_308 : decode cX10_packets 308 = .ok (.iload 12, 2) := by decide +kernel
theorem dX10_packets_310 : decode cX10_packets 310 = .ok (.iastore, 1) := by decide +kernel
theorem dX10_packets_311 : decode cX10_packets 311 = .ok (.aload_n 0, 1) := by decide +kernel
theorem dX10_packets_312 : decode cX10_packets 312 = .ok (.getfield 30, 3) := by decide +kernel
theorem dX10_packets_315 : decode cX10_packets 315 = .ok (.aload_n 0, 1) := by decide +kernel
theorem dX10_packets_316 : decode cX10_packets 316 = .ok (.getfield 75, 3) := by decide +kernel
theorem dX10_packets_319 : decode cX10_packets 319 = .ok (.ldc2_w 65, 3) := by decide +kernel
theorem dX10_packets_322 : decode cX10_packets 322 = .ok (.lastore, 1) := by decide +kernel
theorem dX10_packets_323 : decode cX10_packets 323 = .ok (.aload_n 0, 1) := by decide +kernel
theorem dX10_packets_324 : decode cX10_packets 324 = .ok (.dup, 1) := by decide +kernel
theorem dX10_packets_325 : decode cX10_packets 325 = .ok (.getfield 75, 3) := by decide +kernel
theorem dX10_packets_328 : decode cX10_packets 328 = .ok (.iconst 1, 1) := by decide +kernel
theorem dX10_packets_329 : decode cX10_packets 329 = .ok (.iadd, 1) := by decide +kernel
theorem dX10_packets_330 : decode cX10_packets 330 = .ok (.putfield 75, 3) := by decide +kernel
theorem dX10_packets_333 : decode cX10_packets 333 = .ok (.aload_n 0, 1) := by decide +kernel
theorem dX10_packets_334 : decode cX10_packets 334 = .ok (.dup, 1) := by decide +kernel
theorem dX10_packets_335 : decode cX10_packets 335 = .ok (.getfield 78, 3) := by decide +kernel
theorem dX10_packets_338 : decode cX10_packets 338 = .ok (.iload 12, 2) := by decide +kernel
theorem dX10_packets_340 : decode cX10_packets 340 = .ok (.iadd, 1) := by decide +kernel
theorem dX10_packets_341 : decode cX10_packets 341 = .ok (.putfield 78, 3) := by decide +kernel
theorem dX10_packets_344 : decode cX10_packets 344 = .ok (.iconst 0, 1) := by decide +kernel
theorem dX10_packets_345 : decode cX10_packets 345 = .ok (.istore 12, 2) := by decide +kernel
theorem dX10_packets_347 : decode cX10_packets 347 = .ok (.iinc 14 1, 3) := by decide +kernel
theorem dX10_packets_350 : decode cX10_packets 350 = .ok (.goto (-100), 3) := by decide +kernel
theorem dX10_packets_353 : decode cX10_packets 353 = .ok (.aload_n 0, 1) := by decide +kernel
theorem dX10_packets_354 : decode cX10_packets 354 = .ok (.iload 13, 2) := by decide +kernel
theorem dX10_packets_356 : decode cX10_packets 356 = .ok (.ifCond .eq 8, 3) := by decide +kernel
theorem dX10_packets_359 : decode cX10_packets 359 = .ok (.iload 12, 2) := by decide +kernel
theorem dX10_packets_361 : decode cX10_packets 361 = .ok (.goto 4, 3) := by decide +kernel
theorem dX10_packets_364 : decode cX10_packets 364 = .ok (.iconst (-1), 1) := by decide +kernel
theorem dX10_packets_365 : decode cX10_packets 365 = .ok (.putfield 141, 3) := by decide +kernel
theorem dX10_packets_368 : decode cX10_packets 368 = .ok (.iload 7, 2) := by decide +kernel
theorem dX10_packets_370 : decode cX10_packets 370 = .ok (.ifCond .le 22, 3) := by decide +kernel
theorem dX10_packets_373 : decode cX10_packets 373 = .ok (.aload_n 0, 1) := by decide +kernel
theorem dX10_packets_374 : decode cX10_packets 374 = .ok (.getfield 30, 3) := by decide +kernel
theorem dX10_packets_377 : decode cX10_packets 377 = .ok (.aload_n 0, 1) := by decide +kernel
theorem dX10_packets_378 : decode cX10_packets 378 = .ok (.getfield 75, 3) := by decide +kernel
theorem dX10_packets_381 : decode cX10_packets 381 = .ok (.iconst 1, 1) := by decide +kernel
theorem dX10_packets_382 : decode cX10_packets 382 = .ok (.isub, 1) := by decide +kernel
theorem dX10_packets_383 : decode cX10_packets 383 = .ok (.lload 9, 2) := by decide +kernel
theorem dX10_packets_385 : decode cX10_packets 385 = .ok (.lastore, 1) := by decide +kernel
theorem dX10_packets_386 : decode cX10_packets 386 = .ok (.aload_n 0, 1) := by decide +kernel
theorem dX10_packets_387 : decode cX10_packets 387 = .ok (.lload 9, 2) := by decide +kernel
theorem dX10_packets_389 : decode cX10_packets 389 = .ok (.putfield 147, 3) := by decide +kernel
theorem dX10_packets_392 : decode cX10_packets 392 = .ok (.aload_n 0, 1) := by decide +kernel
theorem dX10_packets_393 : decode cX10_packets 393 = .ok (.iload_n 3, 1) := by decide +kernel
theorem dX10_packets_394 : decode cX10_packets 394 = .ok (.putfield 181, 3) := by decide +kernel
theorem dX10_packets_397 : decode cX10_packets 397 = .ok (.aload_n 0, 1) := by decide +kernel
theorem dX10_packets_398 : decode cX10_packets 398 = .ok (.iload 4, 2) := by decide +kernel
theorem dX10_packets_400 : decode cX10_packets 400 = .ok (.putfield 178, 3) := by decide +kernel
theorem dX10_packets_403 : decode cX10_packets 403 = .ok (.aload_n 0, 1) := by decide +kernel
theorem dX10_packets_404 : decode cX10_packets 404 = .ok (.iload 5, 2) := by decide +kernel
theorem dX10_packets_406 : decode cX10_packets 406 = .ok (.iconst 4, 1) := by decide +kernel
theorem dX10_packets_407 : decode cX10_packets 407 = .ok (.iand, 1) := by decide +kernel
theorem dX10_packets_408 : decode cX10_packets 408 = .ok (.iconst 4, 1) := by decide +kernel
theorem dX10_packets_409 : decode cX10_packets 409 = .ok (.if_icmp .ne 7, 3) := by decide +kernel
theorem dX10_packets_412 : decode cX10_packets 412 = .ok (.iconst 1, 1) := by decide +kernel
theorem dX10_packets_413 : decode cX10_packets 413 = .ok (.goto 4, 3) := by decide +kernel
theorem dX10_packets_416 : decode cX10_packets 416 = .ok (.iconst 0, 1) := by decide +kernel
theorem dX10_packets_417 : decode cX10_packets 417 = .ok (.putfield 144, 3) := by decide +kernel
theorem dX10_packets_420 : decode cX10_packets 420 = .ok (.aload_n 0, 1) := by decide +kernel
theorem dX10_packets_421 : decode cX10_packets 421 = .ok (.dup, 1) := by decide +kernel
theorem dX10_packets_422 : decode cX10_packets 422 = .ok (.getfield 138, 3) := by decide +kernel
theorem dX10_packets_425 : decode cX10_packets 425 = .ok (.iconst 1, 1) := by decide +kernel
theorem dX10_packets_426 : decode cX10_packets 426 = .ok (.iadd, 1) := by decide +kernel
theorem dX10_packets_427 : decode cX10_packets 427 = .ok (.putfield 138, 3) := by decide +kernel
theorem dX10_packets_430 : decode cX10_packets 430 = .ok (.iconst 1, 1) := by decide +kernel
theorem dX10_packets_431 : decode cX10_packets 431 = .ok (.ireturn, 1) := by decide +kernel
theorem dX10_lengthBy_0 : decode cX10_lengthBy 0 = .ok (.iconst 1, 1) := by decide +kernel
theorem dX10_lengthBy_1 : decode cX10_lengthBy 1 = .ok (.istore_n 1, 1) := by decide +kernel
theorem dX10_lengthBy_2 : decode cX10_lengthBy 2 = .ok (.sipush 128, 3) := by decide +kernel
theorem dX10_lengthBy_5 : decode cX10_lengthBy 5 = .ok (.istore_n 2, 1) := by decide +kernel
theorem dX10_lengthBy_6 : decode cX10_lengthBy 6 = .ok (.iload_n 1, 1) := by decide +kernel
theorem dX10_lengthBy_7 : decode cX10_lengthBy 7 = .ok (.bipush 9, 2) := by decide +kernel
theorem dX10_lengthBy_9 : decode cX10_lengthBy 9 = .ok (.if_icmp .ge 19, 3) := by decide +kernel
theorem dX10_lengthBy_12 : decode cX10_lengthBy 12 = .ok (.iload_n 0, 1) := by decide +kernel
theorem dX10_lengthBy_13 : decode cX10_lengthBy 13 = .ok (.iload_n 2, 1) := by decide +kernel
theorem dX10_lengthBy_14 : decode cX10_lengthBy 14 = .ok (.iand, 1) := by decide +kernel
theorem dX10_lengthBy_15 : decode cX10_lengthBy 15 = .ok (.ifCond .ne 13, 3) := by decide +kernel
theorem dX10_lengthBy_18 : decode cX10_lengthBy 18 = .ok (.iload_n 2, 1) := by decide +kernel
theorem dX10_lengthBy_19 : decode cX10_lengthBy 19 = .ok (.iconst 1, 1) := by decide +kernel
theorem dX10_lengthBy_20 : decode cX10_lengthBy 20 = .ok (.ishr, 1) := by decide +kernel
theorem dX10_lengthBy_21 : decode cX10_lengthBy 21 = .ok (.istore_n 2, 1) := by decide +kernel
theorem dX10_lengthBy_22 : decode cX10_lengthBy 22 = .ok (.iinc 1 1, 3) := by decide +kernel
theorem dX10_lengthBy_25 : decode cX10_lengthBy 25 = .ok (.goto (-19), 3) := by decide +kernel
theorem dX10_lengthBy_28 : decode cX10_lengthBy 28 = .ok (.iload_n 1, 1) := by decide +kernel
theorem dX10_lengthBy_29 : decode cX10_lengthBy 29 = .ok (.ireturn, 1) := by decide +kernel
set_option maxRecDepth 20000 in
theorem ggX10_sizeAt_X10_at : GoodIn wsX10_sizeAt wsX10_at := goodIn_r _ [6, 7, 8, 9, 10, 11, 12, 13, 14, 15, 16, 17, 18, 19, 20, 21, 22, 23, 24, 25, 26, 27, 28, 29, 30, 31, 32, 33, 34, 35, 36, 37, 38, 39, 40, 41, 42, 43, 44, 45, 46, 47, 48, 49, 50, 51, 52, 53] (by decide +kernel) (by decide +kernel)
set_option maxRecDepth 20000 in
theorem gX10_sizeAt_X10_at : GoodIn wsX10_sizeAt (wsV RX10 125 RX10 yX10_at wsX10_at) := goodIn_app (goodIn_of _ (by decide +kernel)) ggX10_sizeAt_X10_at
theorem dX10_sizeAt_0 : decode cX10_sizeAt 0 = .ok (.aload_n 0, 1) := by decide +kernel
theorem dX10_sizeAt_1 : decode cX10_sizeAt 1 = .ok (.iload_n 1, 1) := by decide +kernel
theorem dX10_sizeAt_2 : decode cX10_sizeAt 2 = .ok (.invokevirtual 125, 3) := by decide +kernel
theorem dX10_sizeAt_5 : decode cX10_sizeAt 5 = .ok (.iconst 1, 1) := by decide +kernel
theorem dX10_sizeAt_6 : decode cX10_sizeAt 6 = .ok (.bipush 8, 2) := by decide +kernel
theorem dX10_sizeAt_8 : decode cX10_sizeAt 8 = .ok (.iload_n 2, 1) := by decide +kernel
theorem dX10_sizeAt_9 : decode cX10_sizeAt 9 = .ok (.isub, 1) := by decide +kernel
theorem dX10_sizeAt_10 : decode cX10_sizeAt 10 = .ok (.ishl, 1) := by decide +kernel
theorem dX10_sizeAt_11 : decode cX10_sizeAt 11 = .ok (.iconst 1, 1) := by decide +kernel
theorem dX10_sizeAt_12 : decode cX10_sizeAt 12 = .ok (.isub, 1) := by decide +kernel
theorem dX10_sizeAt_13 : decode cX10_sizeAt 13 = .ok (.iand, 1) := by decide +kernel
theorem dX10_sizeAt_14 : decode cX10_sizeAt 14 = .ok (.i2l, 1) := by decide +kernel
theorem dX10_sizeAt_15 : decode cX10_sizeAt 15 = .ok (.lstore_n 3, 1) := by decide +kernel
theorem dX10_sizeAt_16 : decode cX10_sizeAt 16 = .ok (.iconst 1, 1) := by decide +kernel
theorem dX10_sizeAt_17 : decode cX10_sizeAt 17 = .ok (.istore 5, 2) := by decide +kernel
theorem dX10_sizeAt_19 : decode cX10_sizeAt 19 = .ok (.iload 5, 2) := by decide +kernel
theorem dX10_sizeAt_21 : decode cX10_sizeAt 21 = .ok (.iload_n 2, 1) := by decide +kernel
theorem dX10_sizeAt_22 : decode cX10_sizeAt 22 = .ok (.if_icmp .ge 24, 3) := by decide +kernel
theorem dX10_sizeAt_25 : decode cX10_sizeAt 25 = .ok (.lload_n 3, 1) := by decide +kernel
theorem dX10_sizeAt_26 : decode cX10_sizeAt 26 = .ok (.bipush 8, 2) := by decide +kernel
theorem dX10_sizeAt_28 : decode cX10_sizeAt 28 = .ok (.lshl, 1) := by decide +kernel
theorem dX10_sizeAt_29 : decode cX10_sizeAt 29 = .ok (.aload_n 0, 1) := by decide +kernel
theorem dX10_sizeAt_30 : decode cX10_sizeAt 30 = .ok (.iload_n 1, 1) := by decide +kernel
theorem dX10_sizeAt_31 : decode cX10_sizeAt 31 = .ok (.iload 5, 2) := by decide +kernel
theorem dX10_sizeAt_33 : decode cX10_sizeAt 33 = .ok (.iadd, 1) := by decide +kernel
theorem dX10_sizeAt_34 : decode cX10_sizeAt 34 = .ok (.invokevirtual 125, 3) := by decide +kernel
theorem dX10_sizeAt_37 : decode cX10_sizeAt 37 = .ok (.i2l, 1) := by decide +kernel
theorem dX10_sizeAt_38 : decode cX10_sizeAt 38 = .ok (.lor, 1) := by decide +kernel
theorem dX10_sizeAt_39 : decode cX10_sizeAt 39 = .ok (.lstore_n 3, 1) := by decide +kernel
theorem dX10_sizeAt_40 : decode cX10_sizeAt 40 = .ok (.iinc 5 1, 3) := by decide +kernel
theorem dX10_sizeAt_43 : decode cX10_sizeAt 43 = .ok (.goto (-24), 3) := by decide +kernel
theorem dX10_sizeAt_46 : decode cX10_sizeAt 46 = .ok (.lload_n 3, 1) := by decide +kernel
theorem dX10_sizeAt_47 : decode cX10_sizeAt 47 = .ok (.lconst 1, 1) := by decide +kernel
theorem dX10_sizeAt_48 : decode cX10_sizeAt 48 = .ok (.bipush 7, 2) := by decide +kernel
theorem dX10_sizeAt_50 : decode cX10_sizeAt 50 = .ok (.iload_n 2, 1) := by decide +kernel
theorem dX10_sizeAt_51 : decode cX10_sizeAt 51 = .ok (.imul, 1) := by decide +kernel
theorem dX10_sizeAt_52 : decode cX10_sizeAt 52 = .ok (.lshl, 1) := by decide +kernel
theorem dX10_sizeAt_53 : decode cX10_sizeAt 53 = .ok (.lconst 1, 1) := by decide +kernel
theorem dX10_sizeAt_54 : decode cX10_sizeAt 54 = .ok (.lsub, 1) := by decide +kernel
theorem dX10_sizeAt_55 : decode cX10_sizeAt 55 = .ok (.lcmp, 1) := by decide +kernel
theorem dX10_sizeAt_56 : decode cX10_sizeAt 56 = .ok (.ifCond .ne 9, 3) := by decide +kernel
theorem dX10_sizeAt_59 : decode cX10_sizeAt 59 = .ok (.ldc2_w 65, 3) := by decide +kernel
theorem dX10_sizeAt_62 : decode cX10_sizeAt 62 = .ok (.goto 4, 3) := by decide +kernel
theorem dX10_sizeAt_65 : decode cX10_sizeAt 65 = .ok (.lload_n 3, 1) := by decide +kernel
theorem dX10_sizeAt_66 : decode cX10_sizeAt 66 = .ok (.lreturn, 1) := by decide +kernel
set_option maxRecDepth 20000 in
theorem ggX10_name_X10_at : GoodIn wsX10_name wsX10_at := goodIn_r _ [7, 8, 32, 33, 34, 35, 36, 37, 38, 39, 40, 41, 42, 43, 44, 45, 46, 47, 48, 49, 50, 51, 52, 53, 54, 55, 56, 57, 58, 59, 60, 61, 62, 63, 64, 65, 66, 67, 68, 69, 70, 71, 72, 73, 74, 75, 76, 77] (by decide +kernel) (by decide +kernel)
set_option maxRecDepth 20000 in
theorem gX10_name_X10_at : GoodIn wsX10_name (wsV RX10 125 RX10 yX10_at wsX10_at) := goodIn_app (goodIn_of _ (by decide +kernel)) ggX10_name_X10_at
set_option maxRecDepth 20000 in
theorem ggX10_name_X10_fails : GoodIn wsX10_name wsX10_fails := goodIn_r _ [12, 13, 14, 32, 33, 34, 35, 36, 37, 38, 39, 40, 41, 42, 43, 44, 45, 46, 47, 48, 49, 50, 51, 52, 53, 54, 55, 56, 57, 58, 59, 60, 61, 62, 63, 64, 65, 66, 67, 68, 69, 70, 71, 72, 73, 74, 75, 76, 77] (by decide +kernel) (by decide +kernel)
set_option maxRecDepth 20000 in
theorem gX10_name_X10_fails : GoodIn wsX10_name (wsV RX10 151 RX10 yX10_fails wsX10_fails) := goodIn_app (goodIn_of _ (by decide +kernel)) ggX10_name_X10_fails
set_option maxRecDepth 20000 in
theorem ggX10_name_X10_lengthBy : GoodIn wsX10_name wsX10_lengthBy := goodIn_r _ [17] (by decide +kernel) (by decide +kernel)
set_option maxRecDepth 20000 in
theorem gX10_name_X10_lengthBy : GoodIn wsX10_name (va_wsS RX10 188 yX10_lengthBy wsX10_lengthBy) := goodIn_app (goodIn_of _ (by decide +kernel)) ggX10_name_X10_lengthBy
set_option maxRecDepth 20000 in
theorem ggX10_name_X10_mayStand : GoodIn wsX10_name wsX10_mayStand := goodIn_r _ [21, 1, 22, 23, 24, 25, 26, 27, 28, 29, 30, 6, 31, 32, 33, 34, 35, 36, 37, 38, 39, 40, 41, 42, 43, 44, 45, 46, 47, 48, 49, 50, 51, 52, 53, 54, 55, 56, 57, 58, 59, 60, 61, 62, 63, 64, 65, 66, 67, 68, 69, 70, 71, 72, 73, 74, 75, 76, 77] (by decide +kernel) (by decide +kernel)
set_option maxRecDepth 20000 in
theorem gX10_name_X10_mayStand : GoodIn wsX10_name (wsV RX10 197 RX10 yX10_mayStand wsX10_mayStand) := goodIn_app (goodIn_of _ (by decide +kernel)) ggX10_name_X10_mayStand
theorem dX10_name_0 : decode cX10_name 0 = .ok (.aload_n 0, 1) := by decide +kernel
theorem dX10_name_1 : decode cX10_name 1 = .ok (.iload_n 1, 1) := by decide +kernel
theorem dX10_name_2 : decode cX10_name 2 = .ok (.invokevirtual 125, 3) := by decide +kernel
theorem dX10_name_5 : decode cX10_name 5 = .ok (.istore 5, 2) := by decide +kernel
theorem dX10_name_7 : decode cX10_name 7 = .ok (.iload 5, 2) := by decide +kernel
theorem dX10_name_9 : decode cX10_name 9 = .ok (.bipush 16, 2) := by decide +kernel
theorem dX10_name_11 : decode cX10_name 11 = .ok (.if_icmp .ge 10, 3) := by decide +kernel
theorem dX10_name_14 : decode cX10_name 14 = .ok (.aload_n 0, 1) := by decide +kernel
theorem dX10_name_15 : decode cX10_name 15 = .ok (.iconst 2, 1) := by decide +kernel
theorem dX10_name_16 : decode cX10_name 16 = .ok (.iload_n 1, 1) := by decide +kernel
theorem dX10_name_17 : decode cX10_name 17 = .ok (.invokevirtual 151, 3) := by decide +kernel
theorem dX10_name_20 : decode cX10_name 20 = .ok (.ireturn, 1) := by decide +kernel
theorem dX10_name_21 : decode cX10_name 21 = .ok (.iload 5, 2) := by decide +kernel
theorem dX10_name_23 : decode cX10_name 23 = .ok (.invokestatic 188, 3) := by decide +kernel
theorem dX10_name_26 : decode cX10_name 26 = .ok (.istore 6, 2) := by decide +kernel
theorem dX10_name_28 : decode cX10_name 28 = .ok (.iload_n 1, 1) := by decide +kernel
theorem dX10_name_29 : decode cX10_name 29 = .ok (.iload 6, 2) := by decide +kernel
theorem dX10_name_31 : decode cX10_name 31 = .ok (.iadd, 1) := by decide +kernel
theorem dX10_name_32 : decode cX10_name 32 = .ok (.iload_n 2, 1) := by decide +kernel
theorem dX10_name_33 : decode cX10_name 33 = .ok (.if_icmp .le 10, 3) := by decide +kernel
theorem dX10_name_36 : decode cX10_name 36 = .ok (.aload_n 0, 1) := by decide +kernel
theorem dX10_name_37 : decode cX10_name 37 = .ok (.iconst 1, 1) := by decide +kernel
theorem dX10_name_38 : decode cX10_name 38 = .ok (.iload_n 1, 1) := by decide +kernel
theorem dX10_name_39 : decode cX10_name 39 = .ok (.invokevirtual 151, 3) := by decide +kernel
theorem dX10_name_42 : decode cX10_name 42 = .ok (.ireturn, 1) := by decide +kernel
theorem dX10_name_43 : decode cX10_name 43 = .ok (.aload_n 0, 1) := by decide +kernel
theorem dX10_name_44 : decode cX10_name 44 = .ok (.iconst 0, 1) := by decide +kernel
theorem dX10_name_45 : decode cX10_name 45 = .ok (.putfield 191, 3) := by decide +kernel
theorem dX10_name_48 : decode cX10_name 48 = .ok (.iconst 0, 1) := by decide +kernel
theorem dX10_name_49 : decode cX10_name 49 = .ok (.istore 7, 2) := by decide +kernel
theorem dX10_name_51 : decode cX10_name 51 = .ok (.iload 7, 2) := by decide +kernel
theorem dX10_name_53 : decode cX10_name 53 = .ok (.iload 6, 2) := by decide +kernel
theorem dX10_name_55 : decode cX10_name 55 = .ok (.if_icmp .ge 29, 3) := by decide +kernel
theorem dX10_name_58 : decode cX10_name 58 = .ok (.aload_n 0, 1) := by decide +kernel
theorem dX10_name_59 : decode cX10_name 59 = .ok (.aload_n 0, 1) := by decide +kernel
theorem dX10_name_60 : decode cX10_name 60 = .ok (.getfield 191, 3) := by decide +kernel
theorem dX10_name_63 : decode cX10_name 63 = .ok (.bipush 8, 2) := by decide +kernel
theorem dX10_name_65 : decode cX10_name 65 = .ok (.ishl, 1) := by decide +kernel
theorem dX10_name_66 : decode cX10_name 66 = .ok (.aload_n 0, 1) := by decide +kernel
theorem dX10_name_67 : decode cX10_name 67 = .ok (.iload_n 1, 1) := by decide +kernel
theorem dX10_name_68 : decode cX10_name 68 = .ok (.iload 7, 2) := by decide +kernel
theorem dX10_name_70 : decode cX10_name 70 = .ok (.iadd, 1) := by decide +kernel
theorem dX10_name_71 : decode cX10_name 71 = .ok (.invokevirtual 125, 3) := by decide +kernel
theorem dX10_name_74 : decode cX10_name 74 = .ok (.ior, 1) := by decide +kernel
theorem dX10_name_75 : decode cX10_name 75 = .ok (.putfield 191, 3) := by decide +kernel
theorem dX10_name_78 : decode cX10_name 78 = .ok (.iinc 7 1, 3) := by decide +kernel
theorem dX10_name_81 : decode cX10_name 81 = .ok (.goto (-30), 3) := by decide +kernel
theorem dX10_name_84 : decode cX10_name 84 = .ok (.aload_n 0, 1) := by decide +kernel
theorem dX10_name_85 : decode cX10_name 85 = .ok (.iload_n 1, 1) := by decide +kernel
theorem dX10_name_86 : decode cX10_name 86 = .ok (.iload 6, 2) := by decide +kernel
theorem dX10_name_88 : decode cX10_name 88 = .ok (.iadd, 1) := by decide +kernel
theorem dX10_name_89 : decode cX10_name 89 = .ok (.putfield 194, 3) := by decide +kernel
theorem dX10_name_92 : decode cX10_name 92 = .ok (.aload_n 0, 1) := by decide +kernel
theorem dX10_name_93 : decode cX10_name 93 = .ok (.iload_n 3, 1) := by decide +kernel
theorem dX10_name_94 : decode cX10_name 94 = .ok (.iload 4, 2) := by decide +kernel
theorem dX10_name_96 : decode cX10_name 96 = .ok (.invokevirtual 197, 3) := by decide +kernel
theorem dX10_name_99 : decode cX10_name 99 = .ok (.ifCond .ne 12, 3) := by decide +kernel
theorem dX10_name_102 : decode cX10_name 102 = .ok (.aload_n 0, 1) := by decide +kernel
theorem dX10_name_103 : decode cX10_name 103 = .ok (.iconst 2, 1) := by decide +kernel
theorem dX10_name_104 : decode cX10_name 104 = .ok (.iload_n 1, 1) := by decide +kernel
theorem dX10_name_105 : decode cX10_name 105 = .ok (.invokevirtual 151, 3) := by decide +kernel
theorem dX10_name_108 : decode cX10_name 108 = .ok (.ifCond .eq 7, 3) := by decide +kernel
theorem dX10_name_111 : decode cX10_name 111 = .ok (.iconst 1, 1) := by decide +kernel
theorem dX10_name_112 : decode cX10_name 112 = .ok (.goto 4, 3) := by decide +kernel
theorem dX10_name_115 : decode cX10_name 115 = .ok (.iconst 0, 1) := by decide +kernel
theorem dX10_name_116 : decode cX10_name 116 = .ok (.ireturn, 1) := by decide +kernel
set_option maxRecDepth 20000 in
theorem ggX10_head_X10_fails : GoodIn wsX10_head wsX10_fails := goodIn_r _ [13, 14, 15, 28, 29, 30, 31, 32, 33, 34, 35, 36, 37, 38, 39, 40, 41, 42, 43, 44, 45, 46, 47, 48, 49, 50, 51, 52, 53, 54, 55, 56, 57, 58, 59, 60, 61, 62, 63, 64, 65, 66, 67, 68, 69, 70, 71, 72, 73] (by decide +kernel) (by decide +kernel)
set_option maxRecDepth 20000 in
theorem gX10_head_X10_fails : GoodIn wsX10_head (wsV RX10 151 RX10 yX10_fails wsX10_fails) := goodIn_app (goodIn_of _ (by decide +kernel)) ggX10_head_X10_fails
set_option maxRecDepth 20000 in
theorem ggX10_head_X10_at : GoodIn wsX10_head wsX10_at := goodIn_r _ [19, 20, 28, 29, 30, 31, 32, 33, 34, 35, 36, 37, 38, 39, 40, 41, 42, 43, 44, 45, 46, 47, 48, 49, 50, 51, 52, 53, 54, 55, 56, 57, 58, 59, 60, 61, 62, 63, 64, 65, 66, 67, 68, 69, 70, 71, 72, 73] (by decide +kernel) (by decide +kernel)
set_option maxRecDepth 20000 in
theorem gX10_head_X10_at : GoodIn wsX10_head (wsV RX10 125 RX10 yX10_at wsX10_at) := goodIn_app (goodIn_of _ (by decide +kernel)) ggX10_head_X10_at
set_option maxRecDepth 20000 in
theorem ggX10_head_X10_lengthBy : GoodIn wsX10_head wsX10_lengthBy := goodIn_r _ [23] (by decide +kernel) (by decide +kernel)
set_option maxRecDepth 20000 in
theorem gX10_head_X10_lengthBy : GoodIn wsX10_head (va_wsS RX10 188 yX10_lengthBy wsX10_lengthBy) := goodIn_app (goodIn_of _ (by decide +kernel)) ggX10_head_X10_lengthBy
set_option maxRecDepth 20000 in
theorem ggX10_head_X10_sizeAt : GoodIn wsX10_head wsX10_sizeAt := goodIn_r _ [27, 2, 16, 17, 18, 12, 19, 20, 28, 29, 30, 31, 32, 33, 34, 35, 36, 37, 38, 39, 40, 41, 42, 43, 44, 45, 46, 47, 48, 49, 50, 51, 52, 53, 54, 55, 56, 57, 58, 59, 60, 61, 62, 63, 64, 65, 66, 67, 68, 69, 70, 71, 72, 73] (by decide +kernel) (by decide +kernel)
set_option maxRecDepth 20000 in
theorem gX10_head_X10_sizeAt : GoodIn wsX10_head (wsV RX10 200 RX10 yX10_sizeAt wsX10_sizeAt) := goodIn_app (goodIn_of _ (by decide +kernel)) ggX10_head_X10_sizeAt
theorem dX10_head_0 : decode cX10_head 0 = .ok (.aload_n 0, 1) := by decide +kernel
theorem dX10_head_1 : decode cX10_head 1 = .ok (.getfield 194, 3) := by decide +kernel
theorem dX10_head_4 : decode cX10_head 4 = .ok (.iload_n 2, 1) := by decide +kernel
theorem dX10_head_5 : decode cX10_head 5 = .ok (.if_icmp .lt 10, 3) := by decide +kernel
theorem dX10_head_8 : decode cX10_head 8 = .ok (.aload_n 0, 1) := by decide +kernel
theorem dX10_head_9 : decode cX10_head 9 = .ok (.iconst 1, 1) := by decide +kernel
theorem dX10_head_10 : decode cX10_head 10 = .ok (.iload_n 1, 1) := by decide +kernel
theorem dX10_head_11 : decode cX10_head 11 = .ok (.invokevirtual 151, 3) := by decide +kernel
theorem dX10_head_14 : decode cX10_head 14 = .ok (.ireturn, 1) := by decide +kernel
theorem dX10_head_15 : decode cX10_head 15 = .ok (.aload_n 0, 1) := by decide +kernel
theorem dX10_head_16 : decode cX10_head 16 = .ok (.aload_n 0, 1) := by decide +kernel
theorem dX10_head_17 : decode cX10_head 17 = .ok (.getfield 194, 3) := by decide +kernel
theorem dX10_head_20 : decode cX10_head 20 = .ok (.invokevirtual 125, 3) := by decide +kernel
theorem dX10_head_23 : decode cX10_head 23 = .ok (.invokestatic 188, 3) := by decide +kernel
theorem dX10_head_26 : decode cX10_head 26 = .ok (.istore 4, 2) := by decide +kernel
theorem dX10_head_28 : decode cX10_head 28 = .ok (.iload 4, 2) := by decide +kernel
theorem dX10_head_30 : decode cX10_head 30 = .ok (.bipush 8, 2) := by decide +kernel
theorem dX10_head_32 : decode cX10_head 32 = .ok (.if_icmp .le 10, 3) := by decide +kernel
theorem dX10_head_35 : decode cX10_head 35 = .ok (.aload_n 0, 1) := by decide +kernel
theorem dX10_head_36 : decode cX10_head 36 = .ok (.iconst 3, 1) := by decide +kernel
theorem dX10_head_37 : decode cX10_head 37 = .ok (.iload_n 1, 1) := by decide +kernel
theorem dX10_head_38 : decode cX10_head 38 = .ok (.invokevirtual 151, 3) := by decide +kernel
theorem dX10_head_41 : decode cX10_head 41 = .ok (.ireturn, 1) := by decide +kernel
theorem dX10_head_42 : decode cX10_head 42 = .ok (.aload_n 0, 1) := by decide +kernel
theorem dX10_head_43 : decode cX10_head 43 = .ok (.getfield 194, 3) := by decide +kernel
theorem dX10_head_46 : decode cX10_head 46 = .ok (.iload 4, 2) := by decide +kernel
theorem dX10_head_48 : decode cX10_head 48 = .ok (.iadd, 1) := by decide +kernel
theorem dX10_head_49 : decode cX10_head 49 = .ok (.iload_n 2, 1) := by decide +kernel
theorem dX10_head_50 : decode cX10_head 50 = .ok (.if_icmp .le 10, 3) := by decide +kernel
theorem dX10_head_53 : decode cX10_head 53 = .ok (.aload_n 0, 1) := by decide +kernel
theorem dX10_head_54 : decode cX10_head 54 = .ok (.iconst 1, 1) := by decide +kernel
theorem dX10_head_55 : decode cX10_head 55 = .ok (.iload_n 1, 1) := by decide +kernel
theorem dX10_head_56 : decode cX10_head 56 = .ok (.invokevirtual 151, 3) := by decide +kernel
theorem dX10_head_59 : decode cX10_head 59 = .ok (.ireturn, 1) := by decide +kernel
theorem dX10_head_60 : decode cX10_head 60 = .ok (.aload_n 0, 1) := by decide +kernel
theorem dX10_head_61 : decode cX10_head 61 = .ok (.aload_n 0, 1) := by decide +kernel
theorem dX10_head_62 : decode cX10_head 62 = .ok (.getfield 194, 3) := by decide +kernel
theorem dX10_head_65 : decode cX10_head 65 = .ok (.iload 4, 2) := by decide +kernel
theorem dX10_head_67 : decode cX10_head 67 = .ok (.invokevirtual 200, 3) := by decide +kernel
theorem dX10_head_70 : decode cX10_head 70 = .ok (.lstore 5, 2) := by decide +kernel
theorem dX10_head_72 : decode cX10_head 72 = .ok (.aload_n 0, 1) := by decide +kernel
theorem dX10_head_73 : decode cX10_head 73 = .ok (.lload 5, 2) := by decide +kernel
theorem dX10_head_75 : decode cX10_head 75 = .ok (.ldc2_w 65, 3) := by decide +kernel
theorem dX10_head_78 : decode cX10_head 78 = .ok (.lcmp, 1) := by decide +kernel
theorem dX10_head_79 : decode cX10_head 79 = .ok (.ifCond .ne 7, 3) := by decide +kernel
theorem dX10_head_82 : decode cX10_head 82 = .ok (.iconst 1, 1) := by decide +kernel
theorem dX10_head_83 : decode cX10_head 83 = .ok (.goto 4, 3) := by decide +kernel
theorem dX10_head_86 : decode cX10_head 86 = .ok (.iconst 0, 1) := by decide +kernel
theorem dX10_head_87 : decode cX10_head 87 = .ok (.putfield 203, 3) := by decide +kernel
theorem dX10_head_90 : decode cX10_head 90 = .ok (.iload_n 3, 1) := by decide +kernel
theorem dX10_head_91 : decode cX10_head 91 = .ok (.ifCond .ne 12, 3) := by decide +kernel
theorem dX10_head_94 : decode cX10_head 94 = .ok (.aload_n 0, 1) := by decide +kernel
theorem dX10_head_95 : decode cX10_head 95 = .ok (.getfield 191, 3) := by decide +kernel
theorem dX10_head_98 : decode cX10_head 98 = .ok (.ldc 206, 2) := by decide +kernel
theorem dX10_head_100 : decode cX10_head 100 = .ok (.if_icmp .eq 17, 3) := by decide +kernel
theorem dX10_head_103 : decode cX10_head 103 = .ok (.iload_n 3, 1) := by decide +kernel
theorem dX10_head_104 : decode cX10_head 104 = .ok (.iconst 2, 1) := by decide +kernel
theorem dX10_head_105 : decode cX10_head 105 = .ok (.if_icmp .ne 16, 3) := by decide +kernel
theorem dX10_head_108 : decode cX10_head 108 = .ok (.aload_n 0, 1) := by decide +kernel
theorem dX10_head_109 : decode cX10_head 109 = .ok (.getfield 191, 3) := by decide +kernel
theorem dX10_head_112 : decode cX10_head 112 = .ok (.ldc 207, 2) := by decide +kernel
theorem dX10_head_114 : decode cX10_head 114 = .ok (.if_icmp .ne 7, 3) := by decide +kernel
theorem dX10_head_117 : decode cX10_head 117 = .ok (.iconst 1, 1) := by decide +kernel
theorem dX10_head_118 : decode cX10_head 118 = .ok (.goto 4, 3) := by decide +kernel
theorem dX10_head_121 : decode cX10_head 121 = .ok (.iconst 0, 1) := by decide +kernel
theorem dX10_head_122 : decode cX10_head 122 = .ok (.istore 7, 2) := by decide +kernel
theorem dX10_head_124 : decode cX10_head 124 = .ok (.aload_n 0, 1) := by decide +kernel
theorem dX10_head_125 : decode cX10_head 125 = .ok (.getfield 203, 3) := by decide +kernel
theorem dX10_head_128 : decode cX10_head 128 = .ok (.ifCond .eq 8, 3) := by decide +kernel
theorem dX10_head_131 : decode cX10_head 131 = .ok (.iload 7, 2) := by decide +kernel
theorem dX10_head_133 : decode cX10_head 133 = .ok (.ifCond .eq 12, 3) := by decide +kernel
theorem dX10_head_136 : decode cX10_head 136 = .ok (.lload 5, 2) := by decide +kernel
theorem dX10_head_138 : decode cX10_head 138 = .ok (.ldc2_w 208, 3) := by decide +kernel
theorem dX10_head_141 : decode cX10_head 141 = .ok (.lcmp, 1) := by decide +kernel
theorem dX10_head_142 : decode cX10_head 142 = .ok (.ifCond .le 10, 3) := by decide +kernel
theorem dX10_head_145 : decode cX10_head 145 = .ok (.aload_n 0, 1) := by decide +kernel
theorem dX10_head_146 : decode cX10_head 146 = .ok (.iconst 3, 1) := by decide +kernel
theorem dX10_head_147 : decode cX10_head 147 = .ok (.iload_n 1, 1) := by decide +kernel
theorem dX10_head_148 : decode cX10_head 148 = .ok (.invokevirtual 151, 3) := by decide +kernel
theorem dX10_head_151 : decode cX10_head 151 = .ok (.ireturn, 1) := by decide +kernel
theorem dX10_head_152 : decode cX10_head 152 = .ok (.aload_n 0, 1) := by decide +kernel
theorem dX10_head_153 : decode cX10_head 153 = .ok (.dup, 1) := by decide +kernel
theorem dX10_head_154 : decode cX10_head 154 = .ok (.getfield 194, 3) := by decide +kernel
theorem dX10_head_157 : decode cX10_head 157 = .ok (.iload 4, 2) := by decide +kernel
theorem dX10_head_159 : decode cX10_head 159 = .ok (.iadd, 1) := by decide +kernel
theorem dX10_head_160 : decode cX10_head 160 = .ok (.putfield 194, 3) := by decide +kernel
theorem dX10_head_163 : decode cX10_head 163 = .ok (.aload_n 0, 1) := by decide +kernel
theorem dX10_head_164 : decode cX10_head 164 = .ok (.getfield 203, 3) := by decide +kernel
theorem dX10_head_167 : decode cX10_head 167 = .ok (.ifCond .eq 10, 3) := by decide +kernel
theorem dX10_head_170 : decode cX10_head 170 = .ok (.aload_n 0, 1) := by decide +kernel
theorem dX10_head_171 : decode cX10_head 171 = .ok (.iload_n 2, 1) := by decide +kernel
theorem dX10_head_172 : decode cX10_head 172 = .ok (.putfield 210, 3) := by decide +kernel
theorem dX10_head_175 : decode cX10_head 175 = .ok (.iconst 1, 1) := by decide +kernel
theorem dX10_head_176 : decode cX10_head 176 = .ok (.ireturn, 1) := by decide +kernel
theorem dX10_head_177 : decode cX10_head 177 = .ok (.lload 5, 2) := by decide +kernel
theorem dX10_head_179 : decode cX10_head 179 = .ok (.iload_n 2, 1) := by decide +kernel
theorem dX10_head_180 : decode cX10_head 180 = .ok (.aload_n 0, 1) := by decide +kernel
theorem dX10_head_181 : decode cX10_head 181 = .ok (.getfield 194, 3) := by decide +kernel
theorem dX10_head_184 : decode cX10_head 184 = .ok (.isub, 1) := by decide +kernel
theorem dX10_head_185 : decode cX10_head 185 = .ok (.i2l, 1) := by decide +kernel
theorem dX10_head_186 : decode cX10_head 186 = .ok (.lcmp, 1) := by decide +kernel
theorem dX10_head_187 : decode cX10_head 187 = .ok (.ifCond .le 10, 3) := by decide +kernel
theorem dX10_head_190 : decode cX10_head 190 = .ok (.aload_n 0, 1) := by decide +kernel
theorem dX10_head_191 : decode cX10_head 191 = .ok (.iconst 1, 1) := by decide +kernel
theorem dX10_head_192 : decode cX10_head 192 = .ok (.iload_n 1, 1) := by decide +kernel
theorem dX10_head_193 : decode cX10_head 193 = .ok (.invokevirtual 151, 3) := by decide +kernel
theorem dX10_head_196 : decode cX10_head 196 = .ok (.ireturn, 1) := by decide +kernel
theorem dX10_head_197 : decode cX10_head 197 = .ok (.aload_n 0, 1) := by decide +kernel
theorem dX10_head_198 : decode cX10_head 198 = .ok (.aload_n 0, 1) := by decide +kernel
theorem dX10_head_199 : decode cX10_head 199 = .ok (.getfield 194, 3) := by decide +kernel
theorem dX10_head_202 : decode cX10_head 202 = .ok (.lload 5, 2) := by decide +kernel
theorem dX10_head_204 : decode cX10_head 204 = .ok (.l2i, 1) := by decide +kernel
theorem dX10_head_205 : decode cX10_head 205 = .ok (.iadd, 1) := by decide +kernel
theorem dX10_head_206 : decode cX10_head 206 = .ok (.putfield 210, 3) := by decide +kernel
theorem dX10_head_209 : decode cX10_head 209 = .ok (.iconst 1, 1) := by decide +kernel
theorem dX10_head_210 : decode cX10_head 210 = .ok (.ireturn, 1) := by decide +kernel
set_option maxRecDepth 20000 in
theorem ggX10_mayStand_X10_bitOfHead : GoodIn wsX10_mayStand wsX10_bitOfHead := goodIn_r _ [12, 1, 13, 14, 15, 16, 17, 18, 19, 20, 21, 22, 23, 24, 25, 26, 27, 28, 29, 30, 31, 32, 33, 34, 35, 36, 37, 38, 39, 40, 41, 42, 43, 44, 45, 46, 47, 48, 49, 50, 51, 52, 53, 54, 55, 56, 57, 58] (by decide +kernel) (by decide +kernel)
set_option maxRecDepth 20000 in
theorem gX10_mayStand_X10_bitOfHead : GoodIn wsX10_mayStand (wsV RX10 214 RX10 yX10_bitOfHead wsX10_bitOfHead) := goodIn_app (goodIn_of _ (by decide +kernel)) ggX10_mayStand_X10_bitOfHead
theorem dX10_mayStand_0 : decode cX10_mayStand 0 = .ok (.aload_n 0, 1) := by decide +kernel
theorem dX10_mayStand_1 : decode cX10_mayStand 1 = .ok (.getfield 191, 3) := by decide +kernel
theorem dX10_mayStand_4 : decode cX10_mayStand 4 = .ok (.sipush 236, 3) := by decide +kernel
theorem dX10_mayStand_7 : decode cX10_mayStand 7 = .ok (.if_icmp .ne 5, 3) := by decide +kernel
theorem dX10_mayStand_10 : decode cX10_mayStand 10 = .ok (.iconst 1, 1) := by decide +kernel
theorem dX10_mayStand_11 : decode cX10_mayStand 11 = .ok (.ireturn, 1) := by decide +kernel
theorem dX10_mayStand_12 : decode cX10_mayStand 12 = .ok (.iload_n 1, 1) := by decide +kernel
theorem dX10_mayStand_13 : decode cX10_mayStand 13 = .ok (.tableswitch 286 0 6 #[43, 79, 92, 143, 178, 194, 250], 43) := by decide +kernel
theorem dX10_mayStand_56 : decode cX10_mayStand 56 = .ok (.iload_n 2, 1) := by decide +kernel
theorem dX10_mayStand_57 : decode cX10_mayStand 57 = .ok (.iconst 2, 1) := by decide +kernel
theorem dX10_mayStand_58 : decode cX10_mayStand 58 = .ok (.iand, 1) := by decide +kernel
theorem dX10_mayStand_59 : decode cX10_mayStand 59 = .ok (.ifCond .ne 31, 3) := by decide +kernel
theorem dX10_mayStand_62 : decode cX10_mayStand 62 = .ok (.aload_n 0, 1) := by decide +kernel
theorem dX10_mayStand_63 : decode cX10_mayStand 63 = .ok (.getfield 191, 3) := by decide +kernel
theorem dX10_mayStand_66 : decode cX10_mayStand 66 = .ok (.ldc 213, 2) := by decide +kernel
theorem dX10_mayStand_68 : decode cX10_mayStand 68 = .ok (.if_icmp .eq 18, 3) := by decide +kernel
theorem dX10_mayStand_71 : decode cX10_mayStand 71 = .ok (.aload_n 0, 1) := by decide +kernel
theorem dX10_mayStand_72 : decode cX10_mayStand 72 = .ok (.getfield 191, 3) := by decide +kernel
theorem dX10_mayStand_75 : decode cX10_mayStand 75 = .ok (.ldc 206, 2) := by decide +kernel
theorem dX10_mayStand_77 : decode cX10_mayStand 77 = .ok (.if_icmp .ne 13, 3) := by decide +kernel
theorem dX10_mayStand_80 : decode cX10_mayStand 80 = .ok (.iload_n 2, 1) := by decide +kernel
theorem dX10_mayStand_81 : decode cX10_mayStand 81 = .ok (.iconst 1, 1) := by decide +kernel
theorem dX10_mayStand_82 : decode cX10_mayStand 82 = .ok (.iand, 1) := by decide +kernel
theorem dX10_mayStand_83 : decode cX10_mayStand 83 = .ok (.ifCond .eq 7, 3) := by decide +kernel
theorem dX10_mayStand_86 : decode cX10_mayStand 86 = .ok (.iconst 1, 1) := by decide +kernel
theorem dX10_mayStand_87 : decode cX10_mayStand 87 = .ok (.goto 4, 3) := by decide +kernel
theorem dX10_mayStand_90 : decode cX10_mayStand 90 = .ok (.iconst 0, 1) := by decide +kernel
theorem dX10_mayStand_91 : decode cX10_mayStand 91 = .ok (.ireturn, 1) := by decide +kernel
theorem dX10_mayStand_92 : decode cX10_mayStand 92 = .ok (.aload_n 0, 1) := by decide +kernel
theorem dX10_mayStand_93 : decode cX10_mayStand 93 = .ok (.invokevirtual 214, 3) := by decide +kernel
theorem dX10_mayStand_96 : decode cX10_mayStand 96 = .ok (.ifCond .eq 7, 3) := by decide +kernel
theorem dX10_mayStand_99 : decode cX10_mayStand 99 = .ok (.iconst 1, 1) := by decide +kernel
theorem dX10_mayStand_100 : decode cX10_mayStand 100 = .ok (.goto 4, 3) := by decide +kernel
theorem dX10_mayStand_103 : decode cX10_mayStand 103 = .ok (.iconst 0, 1) := by decide +kernel
theorem dX10_mayStand_104 : decode cX10_mayStand 104 = .ok (.ireturn, 1) := by decide +kernel
theorem dX10_mayStand_105 : decode cX10_mayStand 105 = .ok (.aload_n 0, 1) := by decide +kernel
theorem dX10_mayStand_106 : decode cX10_mayStand 106 = .ok (.getfield 191, 3) := by decide +kernel
theorem dX10_mayStand_109 : decode cX10_mayStand 109 = .ok (.ldc 207, 2) := by decide +kernel
theorem dX10_mayStand_111 : decode cX10_mayStand 111 = .ok (.if_icmp .ne 15, 3) := by decide +kernel
theorem dX10_mayStand_114 : decode cX10_mayStand 114 = .ok (.iload_n 2, 1) := by decide +kernel
theorem dX10_mayStand_115 : decode cX10_mayStand 115 = .ok (.iconst 2, 1) := by decide +kernel
theorem dX10_mayStand_116 : decode cX10_mayStand 116 = .ok (.iand, 1) := by decide +kernel
theorem dX10_mayStand_117 : decode cX10_mayStand 117 = .ok (.ifCond .eq 7, 3) := by decide +kernel
theorem dX10_mayStand_120 : decode cX10_mayStand 120 = .ok (.iconst 1, 1) := by decide +kernel
theorem dX10_mayStand_121 : decode cX10_mayStand 121 = .ok (.goto 4, 3) := by decide +kernel
theorem dX10_mayStand_124 : decode cX10_mayStand 124 = .ok (.iconst 0, 1) := by decide +kernel
theorem dX10_mayStand_125 : decode cX10_mayStand 125 = .ok (.ireturn, 1) := by decide +kernel
theorem dX10_mayStand_126 : decode cX10_mayStand 126 = .ok (.aload_n 0, 1) := by decide +kernel
theorem dX10_mayStand_127 : decode cX10_mayStand 127 = .ok (.getfield 191, 3) := by decide +kernel
theorem dX10_mayStand_130 : decode cX10_mayStand 130 = .ok (.ldc 217, 2) := by decide +kernel
theorem dX10_mayStand_132 : decode cX10_mayStand 132 = .ok (.if_icmp .eq 12, 3) := by decide +kernel
theorem dX10_mayStand_135 : decode cX10_mayStand 135 = .ok (.aload_n 0, 1) := by decide +kernel
theorem dX10_mayStand_136 : decode cX10_mayStand 136 = .ok (.getfield 191, 3) := by decide +kernel
theorem dX10_mayStand_139 : decode cX10_mayStand 139 = .ok (.ldc 218, 2) := by decide +kernel
theorem dX10_mayStand_141 : decode cX10_mayStand 141 = .ok (.if_icmp .ne 13, 3) := by decide +kernel
theorem dX10_mayStand_144 : decode cX10_mayStand 144 = .ok (.iload_n 2, 1) := by decide +kernel
theorem dX10_mayStand_145 : decode cX10_mayStand 145 = .ok (.iconst 4, 1) := by decide +kernel
theorem dX10_mayStand_146 : decode cX10_mayStand 146 = .ok (.iand, 1) := by decide +kernel
theorem dX10_mayStand_147 : decode cX10_mayStand 147 = .ok (.ifCond .ne 7, 3) := by decide +kernel
theorem dX10_mayStand_150 : decode cX10_mayStand 150 = .ok (.iconst 1, 1) := by decide +kernel
theorem dX10_mayStand_151 : decode cX10_mayStand 151 = .ok (.goto 4, 3) := by decide +kernel
theorem dX10_mayStand_154 : decode cX10_mayStand 154 = .ok (.iconst 0, 1) := by decide +kernel
theorem dX10_mayStand_155 : decode cX10_mayStand 155 = .ok (.ireturn, 1) := by decide +kernel
theorem dX10_mayStand_156 : decode cX10_mayStand 156 = .ok (.aload_n 0, 1) := by decide +kernel
theorem dX10_mayStand_157 : decode cX10_mayStand 157 = .ok (.getfield 191, 3) := by decide +kernel
theorem dX10_mayStand_160 : decode cX10_mayStand 160 = .ok (.ldc 219, 2) := by decide +kernel
theorem dX10_mayStand_162 : decode cX10_mayStand 162 = .ok (.if_icmp .eq 23, 3) := by decide +kernel
theorem dX10_mayStand_165 : decode cX10_mayStand 165 = .ok (.aload_n 0, 1) := by decide +kernel
theorem dX10_mayStand_166 : decode cX10_mayStand 166 = .ok (.getfield 191, 3) := by decide +kernel
theorem dX10_mayStand_169 : decode cX10_mayStand 169 = .ok (.sipush 19840, 3) := by decide +kernel
theorem dX10_mayStand_172 : decode cX10_mayStand 172 = .ok (.if_icmp .eq 13, 3) := by decide +kernel
theorem dX10_mayStand_175 : decode cX10_mayStand 175 = .ok (.aload_n 0, 1) := by decide +kernel
theorem dX10_mayStand_176 : decode cX10_mayStand 176 = .ok (.getfield 191, 3) := by decide +kernel
theorem dX10_mayStand_179 : decode cX10_mayStand 179 = .ok (.sipush 22337, 3) := by decide +kernel
theorem dX10_mayStand_182 : decode cX10_mayStand 182 = .ok (.if_icmp .ne 7, 3) := by decide +kernel
theorem dX10_mayStand_185 : decode cX10_mayStand 185 = .ok (.iconst 1, 1) := by decide +kernel
theorem dX10_mayStand_186 : decode cX10_mayStand 186 = .ok (.goto 4, 3) := by decide +kernel
theorem dX10_mayStand_189 : decode cX10_mayStand 189 = .ok (.iconst 0, 1) := by decide +kernel
theorem dX10_mayStand_190 : decode cX10_mayStand 190 = .ok (.ireturn, 1) := by decide +kernel
theorem dX10_mayStand_191 : decode cX10_mayStand 191 = .ok (.aload_n 0, 1) := by decide +kernel
theorem dX10_mayStand_192 : decode cX10_mayStand 192 = .ok (.getfield 191, 3) := by decide +kernel
theorem dX10_mayStand_195 : decode cX10_mayStand 195 = .ok (.sipush 174, 3) := by decide +kernel
theorem dX10_mayStand_198 : decode cX10_mayStand 198 = .ok (.if_icmp .ne 7, 3) := by decide +kernel
theorem dX10_mayStand_201 : decode cX10_mayStand 201 = .ok (.iconst 1, 1) := by decide +kernel
theorem dX10_mayStand_202 : decode cX10_mayStand 202 = .ok (.goto 4, 3) := by decide +kernel
theorem dX10_mayStand_205 : decode cX10_mayStand 205 = .ok (.iconst 0, 1) := by decide +kernel
theorem dX10_mayStand_206 : decode cX10_mayStand 206 = .ok (.ireturn, 1) := by decide +kernel
theorem dX10_mayStand_207 : decode cX10_mayStand 207 = .ok (.aload_n 0, 1) := by decide +kernel
theorem dX10_mayStand_208 : decode cX10_mayStand 208 = .ok (.getfield 191, 3) := by decide +kernel
theorem dX10_mayStand_211 : decode cX10_mayStand 211 = .ok (.sipush 215, 3) := by decide +kernel
theorem dX10_mayStand_214 : decode cX10_mayStand 214 = .ok (.if_icmp .eq 43, 3) := by decide +kernel
theorem dX10_mayStand_217 : decode cX10_mayStand 217 = .ok (.aload_n 0, 1) := by decide +kernel
theorem dX10_mayStand_218 : decode cX10_mayStand 218 = .ok (.getfield 191, 3) := by decide +kernel
theorem dX10_mayStand_221 : decode cX10_mayStand 221 = .ok (.sipush 131, 3) := by decide +kernel
theorem dX10_mayStand_224 : decode cX10_mayStand 224 = .ok (.if_icmp .eq 33, 3) := by decide +kernel
theorem dX10_mayStand_227 : decode cX10_mayStand 227 = .ok (.aload_n 0, 1) := by decide +kernel
theorem dX10_mayStand_228 : decode cX10_mayStand 228 = .ok (.getfield 191, 3) := by decide +kernel
theorem dX10_mayStand_231 : decode cX10_mayStand 231 = .ok (.sipush 134, 3) := by decide +kernel
theorem dX10_mayStand_234 : decode cX10_mayStand 234 = .ok (.if_icmp .eq 23, 3) := by decide +kernel
theorem dX10_mayStand_237 : decode cX10_mayStand 237 = .ok (.aload_n 0, 1) := by decide +kernel
theorem dX10_mayStand_238 : decode cX10_mayStand 238 = .ok (.getfield 191, 3) := by decide +kernel
theorem dX10_mayStand_241 : decode cX10_mayStand 241 = .ok (.sipush 29637, 3) := by decide +kernel
theorem dX10_mayStand_244 : decode cX10_mayStand 244 = .ok (.if_icmp .eq 13, 3) := by decide +kernel
theorem dX10_mayStand_247 : decode cX10_mayStand 247 = .ok (.aload_n 0, 1) := by decide +kernel
theorem dX10_mayStand_248 : decode cX10_mayStand 248 = .ok (.getfield 191, 3) := by decide +kernel
theorem dX10_mayStand_251 : decode cX10_mayStand 251 = .ok (.sipush 156, 3) := by decide +kernel
theorem dX10_mayStand_254 : decode cX10_mayStand 254 = .ok (.if_icmp .ne 7, 3) := by decide +kernel
theorem dX10_mayStand_257 : decode cX10_mayStand 257 = .ok (.iconst 1, 1) := by decide +kernel
theorem dX10_mayStand_258 : decode cX10_mayStand 258 = .ok (.goto 4, 3) := by decide +kernel
theorem dX10_mayStand_261 : decode cX10_mayStand 261 = .ok (.iconst 0, 1) := by decide +kernel
theorem dX10_mayStand_262 : decode cX10_mayStand 262 = .ok (.ireturn, 1) := by decide +kernel
theorem dX10_mayStand_263 : decode cX10_mayStand 263 = .ok (.aload_n 0, 1) := by decide +kernel
theorem dX10_mayStand_264 : decode cX10_mayStand 264 = .ok (.getfield 191, 3) := by decide +kernel
theorem dX10_mayStand_267 : decode cX10_mayStand 267 = .ok (.sipush 231, 3) := by decide +kernel
theorem dX10_mayStand_270 : decode cX10_mayStand 270 = .ok (.if_icmp .eq 23, 3) := by decide +kernel
theorem dX10_mayStand_273 : decode cX10_mayStand 273 = .ok (.aload_n 0, 1) := by decide +kernel
theorem dX10_mayStand_274 : decode cX10_mayStand 274 = .ok (.getfield 191, 3) := by decide +kernel
theorem dX10_mayStand_277 : decode cX10_mayStand 277 = .ok (.sipush 163, 3) := by decide +kernel
theorem dX10_mayStand_280 : decode cX10_mayStand 280 = .ok (.if_icmp .eq 13, 3) := by decide +kernel
theorem dX10_mayStand_283 : decode cX10_mayStand 283 = .ok (.aload_n 0, 1) := by decide +kernel
theorem dX10_mayStand_284 : decode cX10_mayStand 284 = .ok (.getfield 191, 3) := by decide +kernel
theorem dX10_mayStand_287 : decode cX10_mayStand 287 = .ok (.sipush 160, 3) := by decide +kernel
theorem dX10_mayStand_290 : decode cX10_mayStand 290 = .ok (.if_icmp .ne 7, 3) := by decide +kernel
theorem dX10_mayStand_293 : decode cX10_mayStand 293 = .ok (.iconst 1, 1) := by decide +kernel
theorem dX10_mayStand_294 : decode cX10_mayStand 294 = .ok (.goto 4, 3) := by decide +kernel
theorem dX10_mayStand_297 : decode cX10_mayStand 297 = .ok (.iconst 0, 1) := by decide +kernel
theorem dX10_mayStand_298 : decode cX10_mayStand 298 = .ok (.ireturn, 1) := by decide +kernel
theorem dX10_mayStand_299 : decode cX10_mayStand 299 = .ok (.aload_n 0, 1) := by decide +kernel
theorem dX10_mayStand_300 : decode cX10_mayStand 300 = .ok (.getfield 191, 3) := by decide +kernel
theorem dX10_mayStand_303 : decode cX10_mayStand 303 = .ok (.sipush 161, 3) := by decide +kernel
