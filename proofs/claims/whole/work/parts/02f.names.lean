theorem dX10_isWhole_1 : decode cX10_isWhole 1 = .ok (.bipush 27, 2) := by decide +kernel
theorem dX10_isWhole_3 : decode cX10_isWhole 3 = .ok (.iadd, 1) := by decide +kernel
theorem dX10_isWhole_4 : decode cX10_isWhole 4 = .ok (.aload_n 0, 1) := by decide +kernel
theorem dX10_isWhole_5 : decode cX10_isWhole 5 = .ok (.iload_n 1, 1) := by decide +kernel
theorem dX10_isWhole_6 : decode cX10_isWhole 6 = .ok (.bipush 26, 2) := by decide +kernel
theorem dX10_isWhole_8 : decode cX10_isWhole 8 = .ok (.iadd, 1) := by decide +kernel
theorem dX10_isWhole_9 : decode cX10_isWhole 9 = .ok (.invokevirtual 125, 3) := by decide +kernel
theorem dX10_isWhole_12 : decode cX10_isWhole 12 = .ok (.iadd, 1) := by decide +kernel
theorem dX10_isWhole_13 : decode cX10_isWhole 13 = .ok (.iload_n 2, 1) := by decide +kernel
theorem dX10_isWhole_14 : decode cX10_isWhole 14 = .ok (.if_icmp .gt 18, 3) := by decide +kernel
theorem dX10_isWhole_17 : decode cX10_isWhole 17 = .ok (.iload_n 1, 1) := by decide +kernel
theorem dX10_isWhole_18 : decode cX10_isWhole 18 = .ok (.aload_n 0, 1) := by decide +kernel
theorem dX10_isWhole_19 : decode cX10_isWhole 19 = .ok (.iload_n 1, 1) := by decide +kernel
theorem dX10_isWhole_20 : decode cX10_isWhole 20 = .ok (.invokevirtual 158, 3) := by decide +kernel
theorem dX10_isWhole_23 : decode cX10_isWhole 23 = .ok (.iadd, 1) := by decide +kernel
theorem dX10_isWhole_24 : decode cX10_isWhole 24 = .ok (.iload_n 2, 1) := by decide +kernel
theorem dX10_isWhole_25 : decode cX10_isWhole 25 = .ok (.if_icmp .gt 7, 3) := by decide +kernel
theorem dX10_isWhole_28 : decode cX10_isWhole 28 = .ok (.iconst 1, 1) := by decide +kernel
theorem dX10_isWhole_29 : decode cX10_isWhole 29 = .ok (.goto 4, 3) := by decide +kernel
theorem dX10_isWhole_32 : decode cX10_isWhole 32 = .ok (.iconst 0, 1) := by decide +kernel
theorem dX10_isWhole_33 : decode cX10_isWhole 33 = .ok (.ireturn, 1) := by decide +kernel
set_option maxRecDepth 20000 in
theorem ggX10_page_X10_fails : GoodIn wsX10_page wsX10_fails := goodIn_r _ [11, 12, 13, 50, 51, 52, 53, 54, 55, 56, 57, 58, 59, 60, 61, 62, 63, 64, 65, 66, 67, 68, 69, 70, 71, 72, 73, 74, 75, 76, 77, 78, 79, 80, 81, 82, 83, 84, 85, 86, 87, 88, 89, 90, 91, 92, 93, 94, 95] (by decide +kernel) (by decide +kernel)
set_option maxRecDepth 20000 in
theorem gX10_page_X10_fails : GoodIn wsX10_page (wsV RX10 151 RX10 yX10_fails wsX10_fails) := goodIn_app (goodIn_of _ (by decide +kernel)) ggX10_page_X10_fails
set_option maxRecDepth 20000 in
theorem ggX10_page_X10_isMark : GoodIn wsX10_page wsX10_isMark := goodIn_r _ [17, 18, 19, 20, 10, 21, 1, 50, 51, 52, 53, 54, 55, 56, 57, 58, 59, 60, 61, 62, 63, 64, 65, 66, 67, 68, 69, 70, 71, 72, 73, 74, 75, 76, 77, 78, 79, 80, 81, 82, 83, 84, 85, 86, 87, 88, 89, 90, 91, 92, 93, 94, 95] (by decide +kernel) (by decide +kernel)
set_option maxRecDepth 20000 in
theorem gX10_page_X10_isMark : GoodIn wsX10_page (wsV RX10 167 RX10 yX10_isMark wsX10_isMark) := goodIn_app (goodIn_of _ (by decide +kernel)) ggX10_page_X10_isMark
set_option maxRecDepth 20000 in
theorem ggX10_page_X10_at : GoodIn wsX10_page wsX10_at := goodIn_r _ [21, 1, 50, 51, 52, 53, 54, 55, 56, 57, 58, 59, 60, 61, 62, 63, 64, 65, 66, 67, 68, 69, 70, 71, 72, 73, 74, 75, 76, 77, 78, 79, 80, 81, 82, 83, 84, 85, 86, 87, 88, 89, 90, 91, 92, 93, 94, 95] (by decide +kernel) (by decide +kernel)
set_option maxRecDepth 20000 in
theorem gX10_page_X10_at : GoodIn wsX10_page (wsV RX10 125 RX10 yX10_at wsX10_at) := goodIn_app (goodIn_of _ (by decide +kernel)) ggX10_page_X10_at
set_option maxRecDepth 20000 in
theorem ggX10_page_X10_isWhole : GoodIn wsX10_page wsX10_isWhole := goodIn_r _ [25, 18, 19, 20, 10, 21, 1, 26, 27, 28, 29, 50, 51, 52, 53, 54, 55, 56, 57, 58, 59, 60, 61, 62, 63, 64, 65, 66, 67, 68, 69, 70, 71, 72, 73, 74, 75, 76, 77, 78, 79, 80, 81, 82, 83, 84, 85, 86, 87, 88, 89, 90, 91, 92, 93, 94, 95] (by decide +kernel) (by decide +kernel)
set_option maxRecDepth 20000 in
theorem gX10_page_X10_isWhole : GoodIn wsX10_page (wsV RX10 171 RX10 yX10_isWhole wsX10_isWhole) := goodIn_app (goodIn_of _ (by decide +kernel)) ggX10_page_X10_isWhole
set_option maxRecDepth 20000 in
theorem ggX10_page_X10_lengthOf : GoodIn wsX10_page wsX10_lengthOf := goodIn_r _ [29, 18, 19, 20, 10, 21, 1, 50, 51, 52, 53, 54, 55, 56, 57, 58, 59, 60, 61, 62, 63, 64, 65, 66, 67, 68, 69, 70, 71, 72, 73, 74, 75, 76, 77, 78, 79, 80, 81, 82, 83, 84, 85, 86, 87, 88, 89, 90, 91, 92, 93, 94, 95] (by decide +kernel) (by decide +kernel)
set_option maxRecDepth 20000 in
theorem gX10_page_X10_lengthOf : GoodIn wsX10_page (wsV RX10 158 RX10 yX10_lengthOf wsX10_lengthOf) := goodIn_app (goodIn_of _ (by decide +kernel)) ggX10_page_X10_lengthOf
set_option maxRecDepth 20000 in
theorem ggX10_page_X10_low : GoodIn wsX10_page wsX10_low := goodIn_r _ [33, 18, 19, 20, 10, 21, 1, 50, 51, 52, 53, 54, 55, 56, 57, 58, 59, 60, 61, 62, 63, 64, 65, 66, 67, 68, 69, 70, 71, 72, 73, 74, 75, 76, 77, 78, 79, 80, 81, 82, 83, 84, 85, 86, 87, 88, 89, 90, 91, 92, 93, 94, 95] (by decide +kernel) (by decide +kernel)
set_option maxRecDepth 20000 in
theorem gX10_page_X10_low : GoodIn wsX10_page (wsV RX10 174 RX10 yX10_low wsX10_low) := goodIn_app (goodIn_of _ (by decide +kernel)) ggX10_page_X10_low
set_option maxRecDepth 20000 in
theorem ggX10_page_X10_sumOf : GoodIn wsX10_page wsX10_sumOf := goodIn_r _ [36, 37] (by decide +kernel) (by decide +kernel)
set_option maxRecDepth 20000 in
theorem gX10_page_X10_sumOf : GoodIn wsX10_page (va_wsS RX10 95 yX10_sumOf wsX10_sumOf) := goodIn_app (goodIn_of _ (by decide +kernel)) ggX10_page_X10_sumOf
set_option maxRecDepth 20000 in
theorem ggX10_page_X10_packets : GoodIn wsX10_page wsX10_packets := goodIn_r _ [41, 42, 43, 44, 6, 45, 46, 47, 1, 48, 49, 5, 4, 3, 2, 18, 19, 20, 10, 21, 30, 31, 32, 33, 7, 8, 9, 11, 12, 13, 50, 51, 52, 53, 54, 55, 56, 57, 58, 59, 60, 61, 62, 63, 64, 65, 66, 67, 68, 69, 70, 71, 72, 73, 74, 75, 76, 77, 78, 79, 80, 81, 82, 83, 84, 85, 86, 87, 88, 89, 90, 91, 92, 93, 94, 95] (by decide +kernel) (by decide +kernel)
set_option maxRecDepth 20000 in
theorem gX10_page_X10_packets : GoodIn wsX10_page (wsV RX10 184 RX10 yX10_packets wsX10_packets) := goodIn_app (goodIn_of _ (by decide +kernel)) ggX10_page_X10_packets
theorem dX10_page_0 : decode cX10_page 0 = .ok (.iload_n 2, 1) := by decide +kernel
theorem dX10_page_1 : decode cX10_page 1 = .ok (.iload_n 1, 1) := by decide +kernel
theorem dX10_page_2 : decode cX10_page 2 = .ok (.isub, 1) := by decide +kernel
theorem dX10_page_3 : decode cX10_page 3 = .ok (.bipush 27, 2) := by decide +kernel
theorem dX10_page_5 : decode cX10_page 5 = .ok (.if_icmp .ge 10, 3) := by decide +kernel
theorem dX10_page_8 : decode cX10_page 8 = .ok (.aload_n 0, 1) := by decide +kernel
theorem dX10_page_9 : decode cX10_page 9 = .ok (.iconst 1, 1) := by decide +kernel
theorem dX10_page_10 : decode cX10_page 10 = .ok (.iload_n 1, 1) := by decide +kernel
theorem dX10_page_11 : decode cX10_page 11 = .ok (.invokevirtual 151, 3) := by decide +kernel
theorem dX10_page_14 : decode cX10_page 14 = .ok (.ireturn, 1) := by decide +kernel
theorem dX10_page_15 : decode cX10_page 15 = .ok (.aload_n 0, 1) := by decide +kernel
theorem dX10_page_16 : decode cX10_page 16 = .ok (.iload_n 1, 1) := by decide +kernel
theorem dX10_page_17 : decode cX10_page 17 = .ok (.invokevirtual 167, 3) := by decide +kernel
theorem dX10_page_20 : decode cX10_page 20 = .ok (.ifCond .ne 10, 3) := by decide +kernel
theorem dX10_page_23 : decode cX10_page 23 = .ok (.aload_n 0, 1) := by decide +kernel
theorem dX10_page_24 : decode cX10_page 24 = .ok (.iconst 2, 1) := by decide +kernel
theorem dX10_page_25 : decode cX10_page 25 = .ok (.iload_n 1, 1) := by decide +kernel
theorem dX10_page_26 : decode cX10_page 26 = .ok (.invokevirtual 151, 3) := by decide +kernel
theorem dX10_page_29 : decode cX10_page 29 = .ok (.ireturn, 1) := by decide +kernel
theorem dX10_page_30 : decode cX10_page 30 = .ok (.aload_n 0, 1) := by decide +kernel
theorem dX10_page_31 : decode cX10_page 31 = .ok (.iload_n 1, 1) := by decide +kernel
theorem dX10_page_32 : decode cX10_page 32 = .ok (.iconst 5, 1) := by decide +kernel
theorem dX10_page_33 : decode cX10_page 33 = .ok (.iadd, 1) := by decide +kernel
theorem dX10_page_34 : decode cX10_page 34 = .ok (.invokevirtual 125, 3) := by decide +kernel
theorem dX10_page_37 : decode cX10_page 37 = .ok (.istore_n 3, 1) := by decide +kernel
theorem dX10_page_38 : decode cX10_page 38 = .ok (.aload_n 0, 1) := by decide +kernel
theorem dX10_page_39 : decode cX10_page 39 = .ok (.iload_n 1, 1) := by decide +kernel
theorem dX10_page_40 : decode cX10_page 40 = .ok (.iconst 4, 1) := by decide +kernel
theorem dX10_page_41 : decode cX10_page 41 = .ok (.iadd, 1) := by decide +kernel
theorem dX10_page_42 : decode cX10_page 42 = .ok (.invokevirtual 125, 3) := by decide +kernel
theorem dX10_page_45 : decode cX10_page 45 = .ok (.ifCond .ne 9, 3) := by decide +kernel
theorem dX10_page_48 : decode cX10_page 48 = .ok (.iload_n 3, 1) := by decide +kernel
theorem dX10_page_49 : decode cX10_page 49 = .ok (.bipush 7, 2) := by decide +kernel
theorem dX10_page_51 : decode cX10_page 51 = .ok (.if_icmp .le 10, 3) := by decide +kernel
theorem dX10_page_54 : decode cX10_page 54 = .ok (.aload_n 0, 1) := by decide +kernel
theorem dX10_page_55 : decode cX10_page 55 = .ok (.iconst 3, 1) := by decide +kernel
theorem dX10_page_56 : decode cX10_page 56 = .ok (.iload_n 1, 1) := by decide +kernel
theorem dX10_page_57 : decode cX10_page 57 = .ok (.invokevirtual 151, 3) := by decide +kernel
theorem dX10_page_60 : decode cX10_page 60 = .ok (.ireturn, 1) := by decide +kernel
theorem dX10_page_61 : decode cX10_page 61 = .ok (.aload_n 0, 1) := by decide +kernel
theorem dX10_page_62 : decode cX10_page 62 = .ok (.iload_n 1, 1) := by decide +kernel
theorem dX10_page_63 : decode cX10_page 63 = .ok (.iload_n 2, 1) := by decide +kernel
theorem dX10_page_64 : decode cX10_page 64 = .ok (.invokevirtual 171, 3) := by decide +kernel
theorem dX10_page_67 : decode cX10_page 67 = .ok (.ifCond .ne 10, 3) := by decide +kernel
theorem dX10_page_70 : decode cX10_page 70 = .ok (.aload_n 0, 1) := by decide +kernel
theorem dX10_page_71 : decode cX10_page 71 = .ok (.iconst 1, 1) := by decide +kernel
theorem dX10_page_72 : decode cX10_page 72 = .ok (.iload_n 1, 1) := by decide +kernel
theorem dX10_page_73 : decode cX10_page 73 = .ok (.invokevirtual 151, 3) := by decide +kernel
theorem dX10_page_76 : decode cX10_page 76 = .ok (.ireturn, 1) := by decide +kernel
theorem dX10_page_77 : decode cX10_page 77 = .ok (.aload_n 0, 1) := by decide +kernel
theorem dX10_page_78 : decode cX10_page 78 = .ok (.iload_n 1, 1) := by decide +kernel
theorem dX10_page_79 : decode cX10_page 79 = .ok (.invokevirtual 158, 3) := by decide +kernel
theorem dX10_page_82 : decode cX10_page 82 = .ok (.istore 4, 2) := by decide +kernel
theorem dX10_page_84 : decode cX10_page 84 = .ok (.aload_n 0, 1) := by decide +kernel
theorem dX10_page_85 : decode cX10_page 85 = .ok (.iload_n 1, 1) := by decide +kernel
theorem dX10_page_86 : decode cX10_page 86 = .ok (.bipush 22, 2) := by decide +kernel
theorem dX10_page_88 : decode cX10_page 88 = .ok (.iadd, 1) := by decide +kernel
theorem dX10_page_89 : decode cX10_page 89 = .ok (.iconst 4, 1) := by decide +kernel
theorem dX10_page_90 : decode cX10_page 90 = .ok (.invokevirtual 174, 3) := by decide +kernel
theorem dX10_page_93 : decode cX10_page 93 = .ok (.l2i, 1) := by decide +kernel
theorem dX10_page_94 : decode cX10_page 94 = .ok (.aload_n 0, 1) := by decide +kernel
theorem dX10_page_95 : decode cX10_page 95 = .ok (.getfield 7, 3) := by decide +kernel
theorem dX10_page_98 : decode cX10_page 98 = .ok (.iload_n 1, 1) := by decide +kernel
theorem dX10_page_99 : decode cX10_page 99 = .ok (.iload 4, 2) := by decide +kernel
theorem dX10_page_101 : decode cX10_page 101 = .ok (.invokestatic 95, 3) := by decide +kernel
theorem dX10_page_104 : decode cX10_page 104 = .ok (.if_icmp .eq 10, 3) := by decide +kernel
theorem dX10_page_107 : decode cX10_page 107 = .ok (.aload_n 0, 1) := by decide +kernel
theorem dX10_page_108 : decode cX10_page 108 = .ok (.iconst 4, 1) := by decide +kernel
theorem dX10_page_109 : decode cX10_page 109 = .ok (.iload_n 1, 1) := by decide +kernel
theorem dX10_page_110 : decode cX10_page 110 = .ok (.invokevirtual 151, 3) := by decide +kernel
theorem dX10_page_113 : decode cX10_page 113 = .ok (.ireturn, 1) := by decide +kernel
theorem dX10_page_114 : decode cX10_page 114 = .ok (.aload_n 0, 1) := by decide +kernel
theorem dX10_page_115 : decode cX10_page 115 = .ok (.iload_n 1, 1) := by decide +kernel
theorem dX10_page_116 : decode cX10_page 116 = .ok (.bipush 18, 2) := by decide +kernel
theorem dX10_page_118 : decode cX10_page 118 = .ok (.iadd, 1) := by decide +kernel
theorem dX10_page_119 : decode cX10_page 119 = .ok (.iconst 4, 1) := by decide +kernel
theorem dX10_page_120 : decode cX10_page 120 = .ok (.invokevirtual 174, 3) := by decide +kernel
theorem dX10_page_123 : decode cX10_page 123 = .ok (.l2i, 1) := by decide +kernel
theorem dX10_page_124 : decode cX10_page 124 = .ok (.istore 5, 2) := by decide +kernel
theorem dX10_page_126 : decode cX10_page 126 = .ok (.aload_n 0, 1) := by decide +kernel
theorem dX10_page_127 : decode cX10_page 127 = .ok (.iload_n 1, 1) := by decide +kernel
theorem dX10_page_128 : decode cX10_page 128 = .ok (.bipush 14, 2) := by decide +kernel
theorem dX10_page_130 : decode cX10_page 130 = .ok (.iadd, 1) := by decide +kernel
theorem dX10_page_131 : decode cX10_page 131 = .ok (.iconst 4, 1) := by decide +kernel
theorem dX10_page_132 : decode cX10_page 132 = .ok (.invokevirtual 174, 3) := by decide +kernel
theorem dX10_page_135 : decode cX10_page 135 = .ok (.l2i, 1) := by decide +kernel
theorem dX10_page_136 : decode cX10_page 136 = .ok (.istore 6, 2) := by decide +kernel
theorem dX10_page_138 : decode cX10_page 138 = .ok (.aload_n 0, 1) := by decide +kernel
theorem dX10_page_139 : decode cX10_page 139 = .ok (.getfield 138, 3) := by decide +kernel
theorem dX10_page_142 : decode cX10_page 142 = .ok (.ifCond .ne 7, 3) := by decide +kernel
theorem dX10_page_145 : decode cX10_page 145 = .ok (.iconst 1, 1) := by decide +kernel
theorem dX10_page_146 : decode cX10_page 146 = .ok (.goto 4, 3) := by decide +kernel
theorem dX10_page_149 : decode cX10_page 149 = .ok (.iconst 0, 1) := by decide +kernel
theorem dX10_page_150 : decode cX10_page 150 = .ok (.istore 7, 2) := by decide +kernel
theorem dX10_page_152 : decode cX10_page 152 = .ok (.aload_n 0, 1) := by decide +kernel
theorem dX10_page_153 : decode cX10_page 153 = .ok (.getfield 144, 3) := by decide +kernel
theorem dX10_page_156 : decode cX10_page 156 = .ok (.ifCond .ne 54, 3) := by decide +kernel
theorem dX10_page_159 : decode cX10_page 159 = .ok (.iload_n 3, 1) := by decide +kernel
theorem dX10_page_160 : decode cX10_page 160 = .ok (.iconst 2, 1) := by decide +kernel
theorem dX10_page_161 : decode cX10_page 161 = .ok (.iand, 1) := by decide +kernel
theorem dX10_page_162 : decode cX10_page 162 = .ok (.iconst 2, 1) := by decide +kernel
theorem dX10_page_163 : decode cX10_page 163 = .ok (.if_icmp .ne 7, 3) := by decide +kernel
theorem dX10_page_166 : decode cX10_page 166 = .ok (.iconst 1, 1) := by decide +kernel
theorem dX10_page_167 : decode cX10_page 167 = .ok (.goto 4, 3) := by decide +kernel
theorem dX10_page_170 : decode cX10_page 170 = .ok (.iconst 0, 1) := by decide +kernel
theorem dX10_page_171 : decode cX10_page 171 = .ok (.iload 7, 2) := by decide +kernel
theorem dX10_page_173 : decode cX10_page 173 = .ok (.if_icmp .ne 37, 3) := by decide +kernel
theorem dX10_page_176 : decode cX10_page 176 = .ok (.iload 5, 2) := by decide +kernel
theorem dX10_page_178 : decode cX10_page 178 = .ok (.iload 7, 2) := by decide +kernel
theorem dX10_page_180 : decode cX10_page 180 = .ok (.ifCond .eq 7, 3) := by decide +kernel
theorem dX10_page_183 : decode cX10_page 183 = .ok (.iconst 0, 1) := by decide +kernel
theorem dX10_page_184 : decode cX10_page 184 = .ok (.goto 9, 3) := by decide +kernel
theorem dX10_page_187 : decode cX10_page 187 = .ok (.aload_n 0, 1) := by decide +kernel
theorem dX10_page_188 : decode cX10_page 188 = .ok (.getfield 178, 3) := by decide +kernel
theorem dX10_page_191 : decode cX10_page 191 = .ok (.iconst 1, 1) := by decide +kernel
theorem dX10_page_192 : decode cX10_page 192 = .ok (.iadd, 1) := by decide +kernel
theorem dX10_page_193 : decode cX10_page 193 = .ok (.if_icmp .ne 17, 3) := by decide +kernel
theorem dX10_page_196 : decode cX10_page 196 = .ok (.iload 7, 2) := by decide +kernel
theorem dX10_page_198 : decode cX10_page 198 = .ok (.ifCond .ne 19, 3) := by decide +kernel
theorem dX10_page_201 : decode cX10_page 201 = .ok (.iload 6, 2) := by decide +kernel
theorem dX10_page_203 : decode cX10_page 203 = .ok (.aload_n 0, 1) := by decide +kernel
theorem dX10_page_204 : decode cX10_page 204 = .ok (.getfield 181, 3) := by decide +kernel
theorem dX10_page_207 : decode cX10_page 207 = .ok (.if_icmp .eq 10, 3) := by decide +kernel
theorem dX10_page_210 : decode cX10_page 210 = .ok (.aload_n 0, 1) := by decide +kernel
theorem dX10_page_211 : decode cX10_page 211 = .ok (.iconst 5, 1) := by decide +kernel
theorem dX10_page_212 : decode cX10_page 212 = .ok (.iload_n 1, 1) := by decide +kernel
theorem dX10_page_213 : decode cX10_page 213 = .ok (.invokevirtual 151, 3) := by decide +kernel
theorem dX10_page_216 : decode cX10_page 216 = .ok (.ireturn, 1) := by decide +kernel
theorem dX10_page_217 : decode cX10_page 217 = .ok (.iload_n 3, 1) := by decide +kernel
theorem dX10_page_218 : decode cX10_page 218 = .ok (.iconst 1, 1) := by decide +kernel
theorem dX10_page_219 : decode cX10_page 219 = .ok (.iand, 1) := by decide +kernel
theorem dX10_page_220 : decode cX10_page 220 = .ok (.iconst 1, 1) := by decide +kernel
theorem dX10_page_221 : decode cX10_page 221 = .ok (.if_icmp .ne 7, 3) := by decide +kernel
theorem dX10_page_224 : decode cX10_page 224 = .ok (.iconst 1, 1) := by decide +kernel
theorem dX10_page_225 : decode cX10_page 225 = .ok (.goto 4, 3) := by decide +kernel
theorem dX10_page_228 : decode cX10_page 228 = .ok (.iconst 0, 1) := by decide +kernel
theorem dX10_page_229 : decode cX10_page 229 = .ok (.aload_n 0, 1) := by decide +kernel
theorem dX10_page_230 : decode cX10_page 230 = .ok (.getfield 141, 3) := by decide +kernel
theorem dX10_page_233 : decode cX10_page 233 = .ok (.iconst (-1), 1) := by decide +kernel
theorem dX10_page_234 : decode cX10_page 234 = .ok (.if_icmp .eq 7, 3) := by decide +kernel
theorem dX10_page_237 : decode cX10_page 237 = .ok (.iconst 1, 1) := by decide +kernel
theorem dX10_page_238 : decode cX10_page 238 = .ok (.goto 4, 3) := by decide +kernel
theorem dX10_page_241 : decode cX10_page 241 = .ok (.iconst 0, 1) := by decide +kernel
theorem dX10_page_242 : decode cX10_page 242 = .ok (.if_icmp .eq 11, 3) := by decide +kernel
theorem dX10_page_245 : decode cX10_page 245 = .ok (.aload_n 0, 1) := by decide +kernel
theorem dX10_page_246 : decode cX10_page 246 = .ok (.bipush 6, 2) := by decide +kernel
theorem dX10_page_248 : decode cX10_page 248 = .ok (.iload_n 1, 1) := by decide +kernel
theorem dX10_page_249 : decode cX10_page 249 = .ok (.invokevirtual 151, 3) := by decide +kernel
theorem dX10_page_252 : decode cX10_page 252 = .ok (.ireturn, 1) := by decide +kernel
theorem dX10_page_253 : decode cX10_page 253 = .ok (.aload_n 0, 1) := by decide +kernel
theorem dX10_page_254 : decode cX10_page 254 = .ok (.iload_n 1, 1) := by decide +kernel
theorem dX10_page_255 : decode cX10_page 255 = .ok (.iload 4, 2) := by decide +kernel
theorem dX10_page_257 : decode cX10_page 257 = .ok (.iload 6, 2) := by decide +kernel
theorem dX10_page_259 : decode cX10_page 259 = .ok (.iload 5, 2) := by decide +kernel
theorem dX10_page_261 : decode cX10_page 261 = .ok (.iload_n 3, 1) := by decide +kernel
theorem dX10_page_262 : decode cX10_page 262 = .ok (.invokevirtual 184, 3) := by decide +kernel
theorem dX10_page_265 : decode cX10_page 265 = .ok (.ireturn, 1) := by decide +kernel
set_option maxRecDepth 20000 in
theorem ggX10_packets_X10_at : GoodIn wsX10_packets wsX10_at := goodIn_r _ [19, 8, 30, 31, 32, 33, 34, 35, 36, 37, 38, 39, 40, 41, 42, 43, 44, 45, 46, 47, 48, 49, 50, 51, 52, 53, 54, 55, 56, 57, 58, 59, 60, 61, 62, 63, 64, 65, 66, 67, 68, 69, 70, 71, 72, 73, 74, 75] (by decide +kernel) (by decide +kernel)
set_option maxRecDepth 20000 in
theorem gX10_packets_X10_at : GoodIn wsX10_packets (wsV RX10 125 RX10 yX10_at wsX10_at) := goodIn_app (goodIn_of _ (by decide +kernel)) ggX10_packets_X10_at
set_option maxRecDepth 20000 in
theorem ggX10_packets_X10_low : GoodIn wsX10_packets wsX10_low := goodIn_r _ [23, 15, 16, 17, 18, 19, 8, 30, 31, 32, 33, 34, 35, 36, 37, 38, 39, 40, 41, 42, 43, 44, 45, 46, 47, 48, 49, 50, 51, 52, 53, 54, 55, 56, 57, 58, 59, 60, 61, 62, 63, 64, 65, 66, 67, 68, 69, 70, 71, 72, 73, 74, 75] (by decide +kernel) (by decide +kernel)
set_option maxRecDepth 20000 in
theorem gX10_packets_X10_low : GoodIn wsX10_packets (wsV RX10 174 RX10 yX10_low wsX10_low) := goodIn_app (goodIn_of _ (by decide +kernel)) ggX10_packets_X10_low
set_option maxRecDepth 20000 in
theorem ggX10_packets_X10_fails : GoodIn wsX10_packets wsX10_fails := goodIn_r _ [27, 28, 29, 30, 31, 32, 33, 34, 35, 36, 37, 38, 39, 40, 41, 42, 43, 44, 45, 46, 47, 48, 49, 50, 51, 52, 53, 54, 55, 56, 57, 58, 59, 60, 61, 62, 63, 64, 65, 66, 67, 68, 69, 70, 71, 72, 73, 74, 75] (by decide +kernel) (by decide +kernel)
set_option maxRecDepth 20000 in
theorem gX10_packets_X10_fails : GoodIn wsX10_packets (wsV RX10 151 RX10 yX10_fails wsX10_fails) := goodIn_app (goodIn_of _ (by decide +kernel)) ggX10_packets_X10_fails
theorem dX10_packets_0 : decode cX10_packets 0 = .ok (.aload_n 0, 1) := by decide +kernel
theorem dX10_packets_1 : decode cX10_packets 1 = .ok (.iload_n 1, 1) := by decide +kernel
theorem dX10_packets_2 : decode cX10_packets 2 = .ok (.bipush 26, 2) := by decide +kernel
theorem dX10_packets_4 : decode cX10_packets 4 = .ok (.iadd, 1) := by decide +kernel
theorem dX10_packets_5 : decode cX10_packets 5 = .ok (.invokevirtual 125, 3) := by decide +kernel
theorem dX10_packets_8 : decode cX10_packets 8 = .ok (.istore 6, 2) := by decide +kernel
theorem dX10_packets_10 : decode cX10_packets 10 = .ok (.iconst 0, 1) := by decide +kernel
theorem dX10_packets_11 : decode cX10_packets 11 = .ok (.istore 7, 2) := by decide +kernel
theorem dX10_packets_13 : decode cX10_packets 13 = .ok (.iload_n 2, 1) := by decide +kernel
theorem dX10_packets_14 : decode cX10_packets 14 = .ok (.bipush 27, 2) := by decide +kernel
theorem dX10_packets_16 : decode cX10_packets 16 = .ok (.isub, 1) := by decide +kernel
theorem dX10_packets_17 : decode cX10_packets 17 = .ok (.iload 6, 2) := by decide +kernel
theorem dX10_packets_19 : decode cX10_packets 19 = .ok (.isub, 1) := by decide +kernel
theorem dX10_packets_20 : decode cX10_packets 20 = .ok (.istore 8, 2) := by decide +kernel
theorem dX10_packets_22 : decode cX10_packets 22 = .ok (.iconst 0, 1) := by decide +kernel
theorem dX10_packets_23 : decode cX10_packets 23 = .ok (.istore 9, 2) := by decide +kernel
theorem dX10_packets_25 : decode cX10_packets 25 = .ok (.iload 9, 2) := by decide +kernel
theorem dX10_packets_27 : decode cX10_packets 27 = .ok (.iload 6, 2) := by decide +kernel
theorem dX10_packets_29 : decode cX10_packets 29 = .ok (.if_icmp .ge 36, 3) := by decide +kernel
theorem dX10_packets_32 : decode cX10_packets 32 = .ok (.iload 7, 2) := by decide +kernel
theorem dX10_packets_34 : decode cX10_packets 34 = .ok (.aload_n 0, 1) := by decide +kernel
theorem dX10_packets_35 : decode cX10_packets 35 = .ok (.iload_n 1, 1) := by decide +kernel
theorem dX10_packets_36 : decode cX10_packets 36 = .ok (.bipush 27, 2) := by decide +kernel
theorem dX10_packets_38 : decode cX10_packets 38 = .ok (.iadd, 1) := by decide +kernel
theorem dX10_packets_39 : decode cX10_packets 39 = .ok (.iload 9, 2) := by decide +kernel
theorem dX10_packets_41 : decode cX10_packets 41 = .ok (.iadd, 1) := by decide +kernel
theorem dX10_packets_42 : decode cX10_packets 42 = .ok (.invokevirtual 125, 3) := by decide +kernel
theorem dX10_packets_45 : decode cX10_packets 45 = .ok (.sipush 255, 3) := by decide +kernel
theorem dX10_packets_48 : decode cX10_packets 48 = .ok (.if_icmp .ge 7, 3) := by decide +kernel
theorem dX10_packets_51 : decode cX10_packets 51 = .ok (.iconst 1, 1) := by decide +kernel
theorem dX10_packets_52 : decode cX10_packets 52 = .ok (.goto 4, 3) := by decide +kernel
theorem dX10_packets_55 : decode cX10_packets 55 = .ok (.iconst 0, 1) := by decide +kernel
theorem dX10_packets_56 : decode cX10_packets 56 = .ok (.iadd, 1) := by decide +kernel
theorem dX10_packets_57 : decode cX10_packets 57 = .ok (.istore 7, 2) := by decide +kernel
theorem dX10_packets_59 : decode cX10_packets 59 = .ok (.iinc 9 1, 3) := by decide +kernel
theorem dX10_packets_62 : decode cX10_packets 62 = .ok (.goto (-37), 3) := by decide +kernel
theorem dX10_packets_65 : decode cX10_packets 65 = .ok (.aload_n 0, 1) := by decide +kernel
theorem dX10_packets_66 : decode cX10_packets 66 = .ok (.iload_n 1, 1) := by decide +kernel
theorem dX10_packets_67 : decode cX10_packets 67 = .ok (.bipush 6, 2) := by decide +kernel
theorem dX10_packets_69 : decode cX10_packets 69 = .ok (.iadd, 1) := by decide +kernel
theorem dX10_packets_70 : decode cX10_packets 70 = .ok (.bipush 8, 2) := by decide +kernel
theorem dX10_packets_72 : decode cX10_packets 72 = .ok (.invokevirtual 174, 3) := by decide +kernel
theorem dX10_packets_75 : decode cX10_packets 75 = .ok (.lstore 9, 2) := by decide +kernel
theorem dX10_packets_77 : decode cX10_packets 77 = .ok (.iload 7, 2) := by decide +kernel
theorem dX10_packets_79 : decode cX10_packets 79 = .ok (.ifCond .le 32, 3) := by decide +kernel
theorem dX10_packets_82 : decode cX10_packets 82 = .ok (.lload 9, 2) := by decide +kernel
theorem dX10_packets_84 : decode cX10_packets 84 = .ok (.lconst 0, 1) := by decide +kernel
theorem dX10_packets_85 : decode cX10_packets 85 = .ok (.lcmp, 1) := by decide +kernel
theorem dX10_packets_86 : decode cX10_packets 86 = .ok (.ifCond .lt 34, 3) := by decide +kernel
theorem dX10_packets_89 : decode cX10_packets 89 = .ok (.lload 9, 2) := by decide +kernel
theorem dX10_packets_91 : decode cX10_packets 91 = .ok (.ldc2_w 67, 3) := by decide +kernel
theorem dX10_packets_94 : decode cX10_packets 94 = .ok (.lcmp, 1) := by decide +kernel
theorem dX10_packets_95 : decode cX10_packets 95 = .ok (.ifCond .gt 25, 3) := by decide +kernel
theorem dX10_packets_98 : decode cX10_packets 98 = .ok (.lload 9, 2) := by decide +kernel
theorem dX10_packets_100 : decode cX10_packets 100 = .ok (.aload_n 0, 1) := by decide +kernel
theorem dX10_packets_101 : decode cX10_packets 101 = .ok (.getfield 147, 3) := by decide +kernel
theorem dX10_packets_104 : decode cX10_packets 104 = .ok (.lcmp, 1) := by decide +kernel
theorem dX10_packets_105 : decode cX10_packets 105 = .ok (.ifCond .ge 23, 3) := by decide +kernel
theorem dX10_packets_108 : decode cX10_packets 108 = .ok (.goto 12, 3) := by decide +kernel
theorem dX10_packets_111 : decode cX10_packets 111 = .ok (.lload 9, 2) := by decide +kernel
theorem dX10_packets_113 : decode cX10_packets 113 = .ok (.ldc2_w 65, 3) := by decide +kernel
theorem dX10_packets_116 : decode cX10_packets 116 = .ok (.lcmp, 1) := by decide +kernel
theorem dX10_packets_117 : decode cX10_packets 117 = .ok (.ifCond .eq 11, 3) := by decide +kernel
theorem dX10_packets_120 : decode cX10_packets 120 = .ok (.aload_n 0, 1) := by decide +kernel
theorem dX10_packets_121 : decode cX10_packets 121 = .ok (.bipush 7, 2) := by decide +kernel
theorem dX10_packets_123 : decode cX10_packets 123 = .ok (.iload_n 1, 1) := by decide +kernel
theorem dX10_packets_124 : decode cX10_packets 124 = .ok (.invokevirtual 151, 3) := by decide +kernel
theorem dX10_packets_127 : decode cX10_packets 127 = .ok (.ireturn, 1) := by decide +kernel
theorem dX10_packets_128 : decode cX10_packets 128 = .ok (.aload_n 0, 1) := by decide +kernel
theorem dX10_packets_129 : decode cX10_packets 129 = .ok (.getfield 141, 3) := by decide +kernel
theorem dX10_packets_132 : decode cX10_packets 132 = .ok (.iconst (-1), 1) := by decide +kernel
theorem dX10_packets_133 : decode cX10_packets 133 = .ok (.if_icmp .ne 7, 3) := by decide +kernel
theorem dX10_packets_136 : decode cX10_packets 136 = .ok (.iconst 0, 1) := by decide +kernel
theorem dX10_packets_137 : decode cX10_packets 137 = .ok (.goto 7, 3) := by decide +kernel
theorem dX10_packets_140 : decode cX10_packets 140 = .ok (.aload_n 0, 1) := by decide +kernel
theorem dX10_packets_141 : decode cX10_packets 141 = .ok (.getfield 141, 3) := by decide +kernel
theorem dX10_packets_144 : decode cX10_packets 144 = .ok (.istore 11, 2) := by decide +kernel
theorem dX10_packets_146 : decode cX10_packets 146 = .ok (.aload_n 0, 1) := by decide +kernel
theorem dX10_packets_147 : decode cX10_packets 147 = .ok (.getfield 75, 3) := by decide +kernel
theorem dX10_packets_150 : decode cX10_packets 150 = .ok (.iload 7, 2) := by decide +kernel
theorem dX10_packets_152 : decode cX10_packets 152 = .ok (.iadd, 1) := by decide +kernel
theorem dX10_packets_153 : decode cX10_packets 153 = .ok (.bipush 64, 2) := by decide +kernel
theorem dX10_packets_155 : decode cX10_packets 155 = .ok (.if_icmp .gt 19, 3) := by decide +kernel
theorem dX10_packets_158 : decode cX10_packets 158 = .ok (.aload_n 0, 1) := by decide +kernel
theorem dX10_packets_159 : decode cX10_packets 159 = .ok (.getfield 78, 3) := by decide +kernel
theorem dX10_packets_162 : decode cX10_packets 162 = .ok (.iload 11, 2) := by decide +kernel
theorem dX10_packets_164 : decode cX10_packets 164 = .ok (.iadd, 1) := by decide +kernel
theorem dX10_packets_165 : decode cX10_packets 165 = .ok (.iload 8, 2) := by decide +kernel
theorem dX10_packets_167 : decode cX10_packets 167 = .ok (.iadd, 1) := by decide +kernel
theorem dX10_packets_168 : decode cX10_packets 168 = .ok (.sipush 2400, 3) := by decide +kernel
theorem dX10_packets_171 : decode cX10_packets 171 = .ok (.if_icmp .le 11, 3) := by decide +kernel
theorem dX10_packets_174 : decode cX10_packets 174 = .ok (.aload_n 0, 1) := by decide +kernel
theorem dX10_packets_175 : decode cX10_packets 175 = .ok (.bipush 8, 2) := by decide +kernel
theorem dX10_packets_177 : decode cX10_packets 177 = .ok (.iload_n 1, 1) := by decide +kernel
theorem dX10_packets_178 : decode cX10_packets 178 = .ok (.invokevirtual 151, 3) := by decide +kernel
theorem dX10_packets_181 : decode cX10_packets 181 = .ok (.ireturn, 1) := by decide +kernel
theorem dX10_packets_182 : decode cX10_packets 182 = .ok (.iconst 0, 1) := by decide +kernel
theorem dX10_packets_183 : decode cX10_packets 183 = .ok (.istore 12, 2) := by decide +kernel
theorem dX10_packets_185 : decode cX10_packets 185 = .ok (.iload 12, 2) := by decide +kernel
theorem dX10_packets_187 : decode cX10_packets 187 = .ok (.iload 8, 2) := by decide +kernel
theorem dX10_packets_189 : decode cX10_packets 189 = .ok (.if_icmp .ge 39, 3) := by decide +kernel
theorem dX10_packets_192 : decode cX10_packets 192 = .ok (.aload_n 0, 1) := by decide +kernel
theorem dX10_packets_193 : decode cX10_packets 193 = .ok (.getfield 36, 3) := by decide +kernel
theorem dX10_packets_196 : decode cX10_packets 196 = .ok (.aload_n 0, 1) := by decide +kernel
theorem dX10_packets_197 : decode cX10_packets 197 = .ok (.getfield 78, 3) := by decide +kernel
theorem dX10_packets_200 : decode cX10_packets 200 = .ok (.iload 11, 2) := by decide +kernel
theorem dX10_packets_202 : decode cX10_packets 202 = .ok (.iadd, 1) := by decide +kernel
theorem dX10_packets_203 : decode cX10_packets 203 = .ok (.iload 12, 2) := by decide +kernel
theorem dX10_packets_205 : decode cX10_packets 205 = .ok (.iadd, 1) := by decide +kernel
theorem dX10_packets_206 : decode cX10_packets 206 = .ok (.aload_n 0, 1) := by decide +kernel
theorem dX10_packets_207 : decode cX10_packets 207 = .ok (.getfield 7, 3) := by decide +kernel
theorem dX10_packets_210 : decode cX10_packets 210 = .ok (.iload_n 1, 1) := by decide +kernel
theorem dX10_packets_211 : decode cX10_packets 211 = .ok (.bipush 27, 2) := by decide +kernel
theorem dX10_packets_213 : decode cX10_packets 213 = .ok (.iadd, 1) := by decide +kernel
theorem dX10_packets_214 : decode cX10_packets 214 = .ok (.iload 6, 2) := by decide +kernel
theorem dX10_packets_216 : decode cX10_packets 216 = .ok (.iadd, 1) := by decide +kernel
theorem dX10_packets_217 : decode cX10_packets 217 = .ok (.iload 12, 2) := by decide +kernel
theorem dX10_packets_219 : decode cX10_packets 219 = .ok (.iadd, 1) := by decide +kernel
theorem dX10_packets_220 : decode cX10_packets 220 = .ok (.baload, 1) := by decide +kernel
theorem dX10_packets_221 : decode cX10_packets 221 = .ok (.bastore, 1) := by decide +kernel
theorem dX10_packets_222 : decode cX10_packets 222 = .ok (.iinc 12 1, 3) := by decide +kernel
theorem dX10_packets_225 : decode cX10_packets 225 = .ok (.goto (-40), 3) := by decide +kernel
theorem dX10_packets_228 : decode cX10_packets 228 = .ok (.iload 11, 2) := by decide +kernel
theorem dX10_packets_230 : decode cX10_packets 230 = .ok (.istore 12, 2) := by decide +kernel
theorem dX10_packets_232 : decode cX10_packets 232 = .ok (.aload_n 0, 1) := by decide +kernel
theorem dX10_packets_233 : decode cX10_packets 233 = .ok (.getfield 141, 3) := by decide +kernel
theorem dX10_packets_236 : decode cX10_packets 236 = .ok (.iconst (-1), 1) := by decide +kernel
theorem dX10_packets_237 : decode cX10_packets 237 = .ok (.if_icmp .eq 7, 3) := by decide +kernel
theorem dX10_packets_240 : decode cX10_packets 240 = .ok (.iconst 1, 1) := by decide +kernel
theorem dX10_packets_241 : decode cX10_packets 241 = .ok (.goto 4, 3) := by decide +kernel
theorem dX10_packets_244 : decode cX10_packets 244 = .ok (.iconst 0, 1) := by decide +kernel
theorem dX10_packets_245 : decode cX10_packets 245 = .ok (.istore 13, 2) := by decide +kernel
theorem dX10_packets_247 : decode cX10_packets 247 = .ok (.iconst 0, 1) := by decide +kernel
theorem dX10_packets_248 : decode cX10_packets 248 = .ok (.istore 14, 2) := by decide +kernel
theorem dX10_packets_250 : decode cX10_packets 250 = .ok (.iload 14, 2) := by decide +kernel
theorem dX10_packets_252 : decode cX10_packets 252 = .ok (.iload 6, 2) := by decide +kernel
theorem dX10_packets_254 : decode cX10_packets 254 = .ok (.if_icmp .ge 99, 3) := by decide +kernel
theorem dX10_packets_257 : decode cX10_packets 257 = .ok (.aload_n 0, 1) := by decide +kernel
theorem dX10_packets_258 : decode cX10_packets 258 = .ok (.iload_n 1, 1) := by decide +kernel
theorem dX10_packets_259 : decode cX10_packets 259 = .ok (.bipush 27, 2) := by decide +kernel
theorem dX10_packets_261 : decode cX10_packets 261 = .ok (.iadd, 1) := by decide +kernel
theorem dX10_packets_262 : decode cX10_packets 262 = .ok (.iload 14, 2) := by decide +kernel
theorem dX10_packets_264 : decode cX10_packets 264 = .ok (.iadd, 1) := by decide +kernel
theorem dX10_packets_265 : decode cX10_packets 265 = .ok (.invokevirtual 125, 3) := by decide +kernel
theorem dX10_packets_268 : decode cX10_packets 268 = .ok (.istore 15, 2) := by decide +kernel
theorem dX10_packets_270 : decode cX10_packets 270 = .ok (.iload 12, 2) := by decide +kernel
theorem dX10_packets_272 : decode cX10_packets 272 = .ok (.iload 15, 2) := by decide +kernel
theorem dX10_packets_274 : decode cX10_packets 274 = .ok (.iadd, 1) := by decide +kernel
theorem dX10_packets_275 : decode cX10_packets 275 = .ok (.istore 12, 2) := by decide +kernel
theorem dX10_packets_277 : decode cX10_packets 277 = .ok (.iload 15, 2) := by decide +kernel
theorem dX10_packets_279 : decode cX10_packets 279 = .ok (.sipush 255, 3) := by decide +kernel
theorem dX10_packets_282 : decode cX10_packets 282 = .ok (.if_icmp .ne 7, 3) := by decide +kernel
theorem dX10_packets_285 : decode cX10_packets 285 = .ok (.iconst 1, 1) := by decide +kernel
theorem dX10_packets_286 : decode cX10_packets 286 = .ok (.goto 4, 3) := by decide +kernel
theorem dX10_packets_289 : decode cX10_packets 289 = .ok (.iconst 0, 1) := by decide +kernel
theorem dX10_packets_290 : decode cX10_packets 290 = .ok (.istore 13, 2) := by decide +kernel
theorem dX10_packets_292 : decode cX10_packets 292 = .ok (.iload 13, 2) := by decide +kernel
theorem dX10_packets_294 : decode cX10_packets 294 = .ok (.ifCond .eq 6, 3) := by decide +kernel
theorem dX10_packets_297 : decode cX10_packets 297 = .ok (.goto 50, 3) := by decide +kernel
theorem dX10_packets_300 : decode cX10_packets 300 = .ok (.aload_n 0, 1) := by decide +kernel
theorem dX10_packets_301 : decode cX10_packets 301 = .ok (.getfield 23, 3) := by decide +kernel
theorem dX10_packets_304 : decode cX10_packets 304 = .ok (.aload_n 0, 1) := by decide +kernel
theorem dX10_packets_305 : decode cX10_packets 305 = .ok (.getfield 75, 3) := by decide +kernel
theorem dX10_packets_308 : decode cX10_packets 308 = .ok (.iload 12, 2) := by decide +kernel
theorem dX10_packets_310 : decode cX10_packets 310 = .ok (.iastore, 1) := by decide +kernel
theorem dX10_packets_311 : decode cX10_packets 311 = .ok (.aload_n 0, 1) := by decide +kernel
theorem dX10_packets_312 : decode cX10_packets 312 = .ok (.getfield 30, 3) := by decide +kernel
theorem dX10_packets_315 : decode cX10_packets 315 = .ok (.aload_n 0, 1) := by decide +kernel
theorem dX10_packets_316 : decode cX10_packets 316 = .ok (.getfield 75, 3) := by decide +kernel
theorem dX10_packets_319 : decode cX10_packets 319 = .ok (.ldc2_w 65, 3) := by decide +kernel
theorem dX10_packets_322 : decode cX10_packets 322 = .ok (.lastore, 1) := by decide +kernel
theorem dX10_packets_323 : decode cX10_packets 323 = .ok (.aload_n 0, 1) := by decide +kernel
theorem dX10_packets_324 : decode cX10_packets 324 = .ok (.dup, 1) := by decide +kernel
theorem dX10_packets_325 : decode cX10_packets 325 = .ok (.getfield 75, 3) := by decide +kernel
theorem dX10_packets_328 : decode cX10_packets 328 = .ok (.iconst 1, 1) := by decide +kernel
theorem dX10_packets_329 : decode cX10_packets 329 = .ok (.iadd, 1) := by decide +kernel
theorem dX10_packets_330 : decode cX10_packets 330 = .ok (.putfield 75, 3) := by decide +kernel
theorem dX10_packets_333 : decode cX10_packets 333 = .ok (.aload_n 0, 1) := by decide +kernel
theorem dX10_packets_334 : decode cX10_packets 334 = .ok (.dup, 1) := by decide +kernel
theorem dX10_packets_335 : decode cX10_packets 335 = .ok (.getfield 78, 3) := by decide +kernel
theorem dX10_packets_338 : decode cX10_packets 338 = .ok (.iload 12, 2) := by decide +kernel
theorem dX10_packets_340 : decode cX10_packets 340 = .ok (.iadd, 1) := by decide +kernel
theorem dX10_packets_341 : decode cX10_packets 341 = .ok (.putfield 78, 3) := by decide +kernel
theorem dX10_packets_344 : decode cX10_packets 344 = .ok (.iconst 0, 1) := by decide +kernel
theorem dX10_packets_345 : decode cX10_packets 345 = .ok (.istore 12, 2) := by decide +kernel
theorem dX10_packets_347 : decode cX10_packets 347 = .ok (.iinc 14 1, 3) := by decide +kernel
theorem dX10_packets_350 : decode cX10_packets 350 = .ok (.goto (-100), 3) := by decide +kernel
theorem dX10_packets_353 : decode cX10_packets 353 = .ok (.aload_n 0, 1) := by decide +kernel
theorem dX10_packets_354 : decode cX10_packets 354 = .ok (.iload 13, 2) := by decide +kernel
theorem dX10_packets_356 : decode cX10_packets 356 = .ok (.ifCond .eq 8, 3) := by decide +kernel
theorem dX10_packets_359 : decode cX10_packets 359 = .ok (.iload 12, 2) := by decide +kernel
theorem dX10_packets_361 : decode cX10_packets 361 = .ok (.goto 4, 3) := by decide +kernel
theorem dX10_packets_364 : decode cX10_packets 364 = .ok (.iconst (-1), 1) := by decide +kernel
theorem dX10_packets_365 : decode cX10_packets 365 = .ok (.putfield 141, 3) := by decide +kernel
theorem dX10_packets_368 : decode cX10_packets 368 = .ok (.iload 7, 2) := by decide +kernel
theorem dX10_packets_370 : decode cX10_packets 370 = .ok (.ifCond .le 22, 3) := by decide +kernel
theorem dX10_packets_373 : decode cX10_packets 373 = .ok (.aload_n 0, 1) := by decide +kernel
theorem dX10_packets_374 : decode cX10_packets 374 = .ok (.getfield 30, 3) := by decide +kernel
theorem dX10_packets_377 : decode cX10_packets 377 = .ok (.aload_n 0, 1) := by decide +kernel
theorem dX10_packets_378 : decode cX10_packets 378 = .ok (.getfield 75, 3) := by decide +kernel
theorem dX10_packets_381 : decode cX10_packets 381 = .ok (.iconst 1, 1) := by decide +kernel
theorem dX10_packets_382 : decode cX10_packets 382 = .ok (.isub, 1) := by decide +kernel
theorem dX10_packets_383 : decode cX10_packets 383 = .ok (.lload 9, 2) := by decide +kernel
theorem dX10_packets_385 : decode cX10_packets 385 = .ok (.lastore, 1) := by decide +kernel
theorem dX10_packets_386 : decode cX10_packets 386 = .ok (.aload_n 0, 1) := by decide +kernel
theorem dX10_packets_387 : decode cX10_packets 387 = .ok (.lload 9, 2) := by decide +kernel
theorem dX10_packets_389 : decode cX10_packets 389 = .ok (.putfield 147, 3) := by decide +kernel
theorem dX10_packets_392 : decode cX10_packets 392 = .ok (.aload_n 0, 1) := by decide +kernel
theorem dX10_packets_393 : decode cX10_packets 393 = .ok (.iload_n 3, 1) := by decide +kernel
theorem dX10_packets_394 : decode cX10_packets 394 = .ok (.putfield 181, 3) := by decide +kernel
theorem dX10_packets_397 : decode cX10_packets 397 = .ok (.aload_n 0, 1) := by decide +kernel
theorem dX10_packets_398 : decode cX10_packets 398 = .ok (.iload 4, 2) := by decide +kernel
theorem dX10_packets_400 : decode cX10_packets 400 = .ok (.putfield 178, 3) := by decide +kernel
theorem dX10_packets_403 : decode cX10_packets 403 = .ok (.aload_n 0, 1) := by decide +kernel
theorem dX10_packets_404 : decode cX10_packets 404 = .ok (.iload 5, 2) := by decide +kernel
theorem dX10_packets_406 : decode cX10_packets 406 = .ok (.iconst 4, 1) := by decide +kernel
theorem dX10_packets_407 : decode cX10_packets 407 = .ok (.iand, 1) := by decide +kernel
theorem dX10_packets_408 : decode cX10_packets 408 = .ok (.iconst 4, 1) := by decide +kernel
theorem dX10_packets_409 : decode cX10_packets 409 = .ok (.if_icmp .ne 7, 3) := by decide +kernel
theorem dX10_packets_412 : decode cX10_packets 412 = .ok (.iconst 1, 1) := by decide +kernel
theorem dX10_packets_413 : decode cX10_packets 413 = .ok (.goto 4, 3) := by decide +kernel
theorem dX10_packets_416 : decode cX10_packets 416 = .ok (.iconst 0, 1) := by decide +kernel
theorem dX10_packets_417 : decode cX10_packets 417 = .ok (.putfield 144, 3) := by decide +kernel
theorem dX10_packets_420 : decode cX10_packets 420 = .ok (.aload_n 0, 1) := by decide +kernel
theorem dX10_packets_421 : decode cX10_packets 421 = .ok (.dup, 1) := by decide +kernel
theorem dX10_packets_422 : decode cX10_packets 422 = .ok (.getfield 138, 3) := by decide +kernel
theorem dX10_packets_425 : decode cX10_packets 425 = .ok (.iconst 1, 1) := by decide +kernel
theorem dX10_packets_426 : decode cX10_packets 426 = .ok (.iadd, 1) := by decide +kernel
theorem dX10_packets_427 : decode cX10_packets 427 = .ok (.putfield 138, 3) := by decide +kernel
theorem dX10_packets_430 : decode cX10_packets 430 = .ok (.iconst 1, 1) := by decide +kernel
theorem dX10_packets_431 : decode cX10_packets 431 = .ok (.ireturn, 1) := by decide +kernel
theorem dX10_lengthBy_0 : decode cX10_lengthBy 0 = .ok (.iconst 1, 1) := by decide +kernel
theorem dX10_lengthBy_1 : decode cX10_lengthBy 1 = .ok (.istore_n 1, 1) := by decide +kernel
theorem dX10_lengthBy_2 : decode cX10_lengthBy 2 = .ok (.sipush 128, 3) := by decide +kernel
theorem dX10_lengthBy_5 : decode cX10_lengthBy 5 = .ok (.istore_n 2, 1) := by decide +kernel
theorem dX10_lengthBy_6 : decode cX10_lengthBy 6 = .ok (.iload_n 1, 1) := by decide +kernel
theorem dX10_lengthBy_7 : decode cX10_lengthBy 7 = .ok (.bipush 9, 2) := by decide +kernel
theorem dX10_lengthBy_9 : decode cX10_lengthBy 9 = .ok (.if_icmp .ge 19, 3) := by decide +kernel
theorem dX10_lengthBy_12 : decode cX10_lengthBy 12 = .ok (.iload_n 0, 1) := by decide +kernel
theorem dX10_lengthBy_13 : decode cX10_lengthBy 13 = .ok (.iload_n 2, 1) := by decide +kernel
theorem dX10_lengthBy_14 : decode cX10_lengthBy 14 = .ok (.iand, 1) := by decide +kernel
theorem dX10_lengthBy_15 : decode cX10_lengthBy 15 = .ok (.ifCond .ne 13, 3) := by decide +kernel
theorem dX10_lengthBy_18 : decode cX10_lengthBy 18 = .ok (.iload_n 2, 1) := by decide +kernel
theorem dX10_lengthBy_19 : decode cX10_lengthBy 19 = .ok (.iconst 1, 1) := by decide +kernel
theorem dX10_lengthBy_20 : decode cX10_lengthBy 20 = .ok (.ishr, 1) := by decide +kernel
theorem dX10_lengthBy_21 : decode cX10_lengthBy 21 = .ok (.istore_n 2, 1) := by decide +kernel
theorem dX10_lengthBy_22 : decode cX10_lengthBy 22 = .ok (.iinc 1 1, 3) := by decide +kernel
theorem dX10_lengthBy_25 : decode cX10_lengthBy 25 = .ok (.goto (-19), 3) := by decide +kernel
theorem dX10_lengthBy_28 : decode cX10_lengthBy 28 = .ok (.iload_n 1, 1) := by decide +kernel
theorem dX10_lengthBy_29 : decode cX10_lengthBy 29 = .ok (.ireturn, 1) := by decide +kernel
set_option maxRecDepth 20000 in
theorem ggX10_sizeAt_X10_at : GoodIn wsX10_sizeAt wsX10_at := goodIn_r _ [6, 7, 8, 9, 10, 11, 12, 13, 14, 15, 16, 17, 18, 19, 20, 21, 22, 23, 24, 25, 26, 27, 28, 29, 30, 31, 32, 33, 34, 35, 36, 37, 38, 39, 40, 41, 42, 43, 44, 45, 46, 47, 48, 49, 50, 51, 52, 53] (by decide +kernel) (by decide +kernel)
set_option maxRecDepth 20000 in
theorem gX10_sizeAt_X10_at : GoodIn wsX10_sizeAt (wsV RX10 125 RX10 yX10_at wsX10_at) := goodIn_app (goodIn_of _ (by decide +kernel)) ggX10_sizeAt_X10_at
theorem dX10_sizeAt_0 : decode cX10_sizeAt 0 = .ok (.aload_n 0, 1) := by decide +kernel
theorem dX10_sizeAt_1 : decode cX10_sizeAt 1 = .ok (.iload_n 1, 1) := by decide +kernel
theorem dX10_sizeAt_2 : decode cX10_sizeAt 2 = .ok (.invokevirtual 125, 3) := by decide +kernel
theorem dX10_sizeAt_5 : decode cX10_sizeAt 5 = .ok (.iconst 1, 1) := by decide +kernel
theorem dX10_sizeAt_6 : decode cX10_sizeAt 6 = .ok (.bipush 8, 2) := by decide +kernel
theorem dX10_sizeAt_8 : decode cX10_sizeAt 8 = .ok (.iload_n 2, 1) := by decide +kernel
theorem dX10_sizeAt_9 : decode cX10_sizeAt 9 = .ok (.isub, 1) := by decide +kernel
theorem dX10_sizeAt_10 : decode cX10_sizeAt 10 = .ok (.ishl, 1) := by decide +kernel
theorem dX10_sizeAt_11 : decode cX10_sizeAt 11 = .ok (.iconst 1, 1) := by decide +kernel
theorem dX10_sizeAt_12 : decode cX10_sizeAt 12 = .ok (.isub, 1) := by decide +kernel
theorem dX10_sizeAt_13 : decode cX10_sizeAt 13 = .ok (.iand, 1) := by decide +kernel
theorem dX10_sizeAt_14 : decode cX10_sizeAt 14 = .ok (.i2l, 1) := by decide +kernel
theorem dX10_sizeAt_15 : decode cX10_sizeAt 15 = .ok (.lstore_n 3, 1) := by decide +kernel
theorem dX10_sizeAt_16 : decode cX10_sizeAt 16 = .ok (.iconst 1, 1) := by decide +kernel
theorem dX10_sizeAt_17 : decode cX10_sizeAt 17 = .ok (.istore 5, 2) := by decide +kernel
theorem dX10_sizeAt_19 : decode cX10_sizeAt 19 = .ok (.iload 5, 2) := by decide +kernel
theorem dX10_sizeAt_21 : decode cX10_sizeAt 21 = .ok (.iload_n 2, 1) := by decide +kernel
theorem dX10_sizeAt_22 : decode cX10_sizeAt 22 = .ok (.if_icmp .ge 24, 3) := by decide +kernel
theorem dX10_sizeAt_25 : decode cX10_sizeAt 25 = .ok (.lload_n 3, 1) := by decide +kernel
theorem dX10_sizeAt_26 : decode cX10_sizeAt 26 = .ok (.bipush 8, 2) := by decide +kernel
theorem dX10_sizeAt_28 : decode cX10_sizeAt 28 = .ok (.lshl, 1) := by decide +kernel
theorem dX10_sizeAt_29 : decode cX10_sizeAt 29 = .ok (.aload_n 0, 1) := by decide +kernel
theorem dX10_sizeAt_30 : decode cX10_sizeAt 30 = .ok (.iload_n 1, 1) := by decide +kernel
theorem dX10_sizeAt_31 : decode cX10_sizeAt 31 = .ok (.iload 5, 2) := by decide +kernel
theorem dX10_sizeAt_33 : decode cX10_sizeAt 33 = .ok (.iadd, 1) := by decide +kernel
theorem dX10_sizeAt_34 : decode cX10_sizeAt 34 = .ok (.invokevirtual 125, 3) := by decide +kernel
theorem dX10_sizeAt_37 : decode cX10_sizeAt 37 = .ok (.i2l, 1) := by decide +kernel
theorem dX10_sizeAt_38 : decode cX10_sizeAt 38 = .ok (.lor, 1) := by decide +kernel
theorem dX10_sizeAt_39 : decode cX10_sizeAt 39 = .ok (.lstore_n 3, 1) := by decide +kernel
theorem dX10_sizeAt_40 : decode cX10_sizeAt 40 = .ok (.iinc 5 1, 3) := by decide +kernel
theorem dX10_sizeAt_43 : decode cX10_sizeAt 43 = .ok (.goto (-24), 3) := by decide +kernel
theorem dX10_sizeAt_46 : decode cX10_sizeAt 46 = .ok (.lload_n 3, 1) := by decide +kernel
theorem dX10_sizeAt_47 : decode cX10_sizeAt 47 = .ok (.lconst 1, 1) := by decide +kernel
theorem dX10_sizeAt_48 : decode cX10_sizeAt 48 = .ok (.bipush 7, 2) := by decide +kernel
theorem dX10_sizeAt_50 : decode cX10_sizeAt 50 = .ok (.iload_n 2, 1) := by decide +kernel
theorem dX10_sizeAt_51 : decode cX10_sizeAt 51 = .ok (.imul, 1) := by decide +kernel
theorem dX10_sizeAt_52 : decode cX10_sizeAt 52 = .ok (.lshl, 1) := by decide +kernel
theorem dX10_sizeAt_53 : decode cX10_sizeAt 53 = .ok (.lconst 1, 1) := by decide +kernel
theorem dX10_sizeAt_54 : decode cX10_sizeAt 54 = .ok (.lsub, 1) := by decide +kernel
theorem dX10_sizeAt_55 : decode cX10_sizeAt 55 = .ok (.lcmp, 1) := by decide +kernel
theorem dX10_sizeAt_56 : decode cX10_sizeAt 56 = .ok (.ifCond .ne 9, 3) := by decide +kernel
theorem dX10_sizeAt_59 : decode cX10_sizeAt 59 = .ok (.ldc2_w 65, 3) := by decide +kernel
theorem dX10_sizeAt_62 : decode cX10_sizeAt 62 = .ok (.goto 4, 3) := by decide +kernel
theorem dX10_sizeAt_65 : decode cX10_sizeAt 65 = .ok (.lload_n 3, 1) := by decide +kernel
theorem dX10_sizeAt_66 : decode cX10_sizeAt 66 = .ok (.lreturn, 1) := by decide +kernel
set_option maxRecDepth 20000 in
theorem ggX10_name_X10_at : GoodIn wsX10_name wsX10_at := goodIn_r _ [7, 8, 32, 33, 34, 35, 36, 37, 38, 39, 40, 41, 42, 43, 44, 45, 46, 47, 48, 49, 50, 51, 52, 53, 54, 55, 56, 57, 58, 59, 60, 61, 62, 63, 64, 65, 66, 67, 68, 69, 70, 71, 72, 73, 74, 75, 76, 77] (by decide +kernel) (by decide +kernel)
set_option maxRecDepth 20000 in
theorem gX10_name_X10_at : GoodIn wsX10_name (wsV RX10 125 RX10 yX10_at wsX10_at) := goodIn_app (goodIn_of _ (by decide +kernel)) ggX10_name_X10_at
set_option maxRecDepth 20000 in
theorem ggX10_name_X10_fails : GoodIn wsX10_name wsX10_fails := goodIn_r _ [12, 13, 14, 32, 33, 34, 35, 36, 37, 38, 39, 40, 41, 42, 43, 44, 45, 46, 47, 48, 49, 50, 51, 52, 53, 54, 55, 56, 57, 58, 59, 60, 61, 62, 63, 64, 65, 66, 67, 68, 69, 70, 71, 72, 73, 74, 75, 76, 77] (by decide +kernel) (by decide +kernel)
set_option maxRecDepth 20000 in
theorem gX10_name_X10_fails : GoodIn wsX10_name (wsV RX10 151 RX10 yX10_fails wsX10_fails) := goodIn_app (goodIn_of _ (by decide +kernel)) ggX10_name_X10_fails
set_option maxRecDepth 20000 in
theorem ggX10_name_X10_lengthBy : GoodIn wsX10_name wsX10_lengthBy := goodIn_r _ [17] (by decide +kernel) (by decide +kernel)
set_option maxRecDepth 20000 in
theorem gX10_name_X10_lengthBy : GoodIn wsX10_name (va_wsS RX10 188 yX10_lengthBy wsX10_lengthBy) := goodIn_app (goodIn_of _ (by decide +kernel)) ggX10_name_X10_lengthBy
set_option maxRecDepth 20000 in
theorem ggX10_name_X10_mayStand : GoodIn wsX10_name wsX10_mayStand := goodIn_r _ [21, 1, 22, 23, 24, 25, 26, 27, 28, 29, 30, 6, 31, 32, 33, 34, 35, 36, 37, 38, 39, 40, 41, 42, 43, 44, 45, 46, 47, 48, 49, 50, 51, 52, 53, 54, 55, 56, 57, 58, 59, 60, 61, 62, 63, 64, 65, 66, 67, 68, 69, 70, 71, 72, 73, 74, 75, 76, 77] (by decide +kernel) (by decide +kernel)
set_option maxRecDepth 20000 in
theorem gX10_name_X10_mayStand : GoodIn wsX10_name (wsV RX10 197 RX10 yX10_mayStand wsX10_mayStand) := goodIn_app (goodIn_of _ (by decide +kernel)) ggX10_name_X10_mayStand
theorem dX10_name_0 : decode cX10_name 0 = .ok (.aload_n 0, 1) := by decide +kernel
theorem dX10_name_1 : decode cX10_name 1 = .ok (.iload_n 1, 1) := by decide +kernel
theorem dX10_name_2 : decode cX10_name 2 = .ok (.invokevirtual 125, 3) := by decide +kernel
theorem dX10_name_5 : decode cX10_name 5 = .ok (.istore 5, 2) := by decide +kernel
theorem dX10_name_7 : decode cX10_name 7 = .ok (.iload 5, 2) := by decide +kernel
theorem dX10_name_9 : decode cX10_name 9 = .ok (.bipush 16, 2) := by decide +kernel
theorem dX10_name_11 : decode cX10_name 11 = .ok (.if_icmp .ge 10, 3) := by decide +kernel
theorem dX10_name_14 : decode cX10_name 14 = .ok (.aload_n 0, 1) := by decide +kernel
theorem dX10_name_15 : decode cX10_name 15 = .ok (.iconst 2, 1) := by decide +kernel
theorem dX10_name_16 : decode cX10_name 16 = .ok (.iload_n 1, 1) := by decide +kernel
theorem dX10_name_17 : decode cX10_name 17 = .ok (.invokevirtual 151, 3) := by decide +kernel
theorem dX10_name_20 : decode cX10_name 20 = .ok (.ireturn, 1) := by decide +kernel
theorem dX10_name_21 : decode cX10_name 21 = .ok (.iload 5, 2) := by decide +kernel
theorem dX10_name_23 : decode cX10_name 23 = .ok (.invokestatic 188, 3) := by decide +kernel
theorem dX10_name_26 : decode cX10_name 26 = .ok (.istore 6, 2) := by decide +kernel
theorem dX10_name_28 : decode cX10_name 28 = .ok (.iload_n 1, 1) := by decide +kernel
theorem dX10_name_29 : decode cX10_name 29 = .ok (.iload 6, 2) := by decide +kernel
theorem dX10_name_31 : decode cX10_name 31 = .ok (.iadd, 1) := by decide +kernel
theorem dX10_name_32 : decode cX10_name 32 = .ok (.iload_n 2, 1) := by decide +kernel
theorem dX10_name_33 : decode cX10_name 33 = .ok (.if_icmp .le 10, 3) := by decide +kernel
theorem dX10_name_36 : decode cX10_name 36 = .ok (.aload_n 0, 1) := by decide +kernel
theorem dX10_name_37 : decode cX10_name 37 = .ok (.iconst 1, 1) := by decide +kernel
theorem dX10_name_38 : decode cX10_name 38 = .ok (.iload_n 1, 1) := by decide +kernel
theorem dX10_name_39 : decode cX10_name 39 = .ok (.invokevirtual 151, 3) := by decide +kernel
theorem dX10_name_42 : decode cX10_name 42 = .ok (.ireturn, 1) := by decide +kernel
theorem dX10_name_43 : decode cX10_name 43 = .ok (.aload_n 0, 1) := by decide +kernel
theorem dX10_name_44 : decode cX10_name 44 = .ok (.iconst 0, 1) := by decide +kernel
theorem dX10_name_45 : decode cX10_name 45 = .ok (.putfield 191, 3) := by decide +kernel
theorem dX10_name_48 : decode cX10_name 48 = .ok (.iconst 0, 1) := by decide +kernel
theorem dX10_name_49 : decode cX10_name 49 = .ok (.istore 7, 2) := by decide +kernel
theorem dX10_name_51 : decode cX10_name 51 = .ok (.iload 7, 2) := by decide +kernel
theorem dX10_name_53 : decode cX10_name 53 = .ok (.iload 6, 2) := by decide +kernel
theorem dX10_name_55 : decode cX10_name 55 = .ok (.if_icmp .ge 29, 3) := by decide +kernel
theorem dX10_name_58 : decode cX10_name 58 = .ok (.aload_n 0, 1) := by decide +kernel
theorem dX10_name_59 : decode cX10_name 59 = .ok (.aload_n 0, 1) := by decide +kernel
theorem dX10_name_60 : decode cX10_name 60 = .ok (.getfield 191, 3) := by decide +kernel
theorem dX10_name_63 : decode cX10_name 63 = .ok (.bipush 8, 2) := by decide +kernel
theorem dX10_name_65 : decode cX10_name 65 = .ok (.ishl, 1) := by decide +kernel
theorem dX10_name_66 : decode cX10_name 66 = .ok (.aload_n 0, 1) := by decide +kernel
theorem dX10_name_67 : decode cX10_name 67 = .ok (.iload_n 1, 1) := by decide +kernel
theorem dX10_name_68 : decode cX10_name 68 = .ok (.iload 7, 2) := by decide +kernel
theorem dX10_name_70 : decode cX10_name 70 = .ok (.iadd, 1) := by decide +kernel
theorem dX10_name_71 : decode cX10_name 71 = .ok (.invokevirtual 125, 3) := by decide +kernel
theorem dX10_name_74 : decode cX10_name 74 = .ok (.ior, 1) := by decide +kernel
theorem dX10_name_75 : decode cX10_name 75 = .ok (.putfield 191, 3) := by decide +kernel
theorem dX10_name_78 : decode cX10_name 78 = .ok (.iinc 7 1, 3) := by decide +kernel
theorem dX10_name_81 : decode cX10_name 81 = .ok (.goto (-30), 3) := by decide +kernel
theorem dX10_name_84 : decode cX10_name 84 = .ok (.aload_n 0, 1) := by decide +kernel
theorem dX10_name_85 : decode cX10_name 85 = .ok (.iload_n 1, 1) := by decide +kernel
theorem dX10_name_86 : decode cX10_name 86 = .ok (.iload 6, 2) := by decide +kernel
theorem dX10_name_88 : decode cX10_name 88 = .ok (.iadd, 1) := by decide +kernel
theorem dX10_name_89 : decode cX10_name 89 = .ok (.putfield 194, 3) := by decide +kernel
theorem dX10_name_92 : decode cX10_name 92 = .ok (.aload_n 0, 1) := by decide +kernel
theorem dX10_name_93 : decode cX10_name 93 = .ok (.iload_n 3, 1) := by decide +kernel
theorem dX10_name_94 : decode cX10_name 94 = .ok (.iload 4, 2) := by decide +kernel
theorem dX10_name_96 : decode cX10_name 96 = .ok (.invokevirtual 197, 3) := by decide +kernel
theorem dX10_name_99 : decode cX10_name 99 = .ok (.ifCond .ne 12, 3) := by decide +kernel
theorem dX10_name_102 : decode cX10_name 102 = .ok (.aload_n 0, 1) := by decide +kernel
theorem dX10_name_103 : decode cX10_name 103 = .ok (.iconst 2, 1) := by decide +kernel
theorem dX10_name_104 : decode cX10_name 104 = .ok (.iload_n 1, 1) := by decide +kernel
theorem dX10_name_105 : decode cX10_name 105 = .ok (.invokevirtual 151, 3) := by decide +kernel
theorem dX10_name_108 : decode cX10_name 108 = .ok (.ifCond .eq 7, 3) := by decide +kernel
theorem dX10_name_111 : decode cX10_name 111 = .ok (.iconst 1, 1) := by decide +kernel
theorem dX10_name_112 : decode cX10_name 112 = .ok (.goto 4, 3) := by decide +kernel
theorem dX10_name_115 : decode cX10_name 115 = .ok (.iconst 0, 1) := by decide +kernel
theorem dX10_name_116 : decode cX10_name 116 = .ok (.ireturn, 1) := by decide +kernel
set_option maxRecDepth 20000 in
theorem ggX10_head_X10_fails : GoodIn wsX10_head wsX10_fails := goodIn_r _ [13, 14, 15, 28, 29, 30, 31, 32, 33, 34, 35, 36, 37, 38, 39, 40, 41, 42, 43, 44, 45, 46, 47, 48, 49, 50, 51, 52, 53, 54, 55, 56, 57, 58, 59, 60, 61, 62, 63, 64, 65, 66, 67, 68, 69, 70, 71, 72, 73] (by decide +kernel) (by decide +kernel)
set_option maxRecDepth 20000 in
theorem gX10_head_X10_fails : GoodIn wsX10_head (wsV RX10 151 RX10 yX10_fails wsX10_fails) := goodIn_app (goodIn_of _ (by decide +kernel)) ggX10_head_X10_fails
set_option maxRecDepth 20000 in
theorem ggX10_head_X10_at : GoodIn wsX10_head wsX10_at := goodIn_r _ [19, 20, 28, 29, 30, 31, 32, 33, 34, 35, 36, 37, 38, 39, 40, 41, 42, 43, 44, 45, 46, 47, 48, 49, 50, 51, 52, 53, 54, 55, 56, 57, 58, 59, 60, 61, 62, 63, 64, 65, 66, 67, 68, 69, 70, 71, 72, 73] (by decide +kernel) (by decide +kernel)
set_option maxRecDepth 20000 in
theorem gX10_head_X10_at : GoodIn wsX10_head (wsV RX10 125 RX10 yX10_at wsX10_at) := goodIn_app (goodIn_of _ (by decide +kernel)) ggX10_head_X10_at
set_option maxRecDepth 20000 in
theorem ggX10_head_X10_lengthBy : GoodIn wsX10_head wsX10_lengthBy := goodIn_r _ [23] (by decide +kernel) (by decide +kernel)
set_option maxRecDepth 20000 in
theorem gX10_head_X10_lengthBy : GoodIn wsX10_head (va_wsS RX10 188 yX10_lengthBy wsX10_lengthBy) := goodIn_app (goodIn_of _ (by decide +kernel)) ggX10_head_X10_lengthBy
set_option maxRecDepth 20000 in
theorem ggX10_head_X10_sizeAt : GoodIn wsX10_head wsX10_sizeAt := goodIn_r _ [27, 2, 16, 17, 18, 12, 19, 20, 28, 29, 30, 31, 32, 33, 34, 35, 36, 37, 38, 39, 40, 41, 42, 43, 44, 45, 46, 47, 48, 49, 50, 51, 52, 53, 54, 55, 56, 57, 58, 59, 60, 61, 62, 63, 64, 65, 66, 67, 68, 69, 70, 71, 72, 73] (by decide +kernel) (by decide +kernel)
set_option maxRecDepth 20000 in
theorem gX10_head_X10_sizeAt : GoodIn wsX10_head (wsV RX10 200 RX10 yX10_sizeAt wsX10_sizeAt) := goodIn_app (goodIn_of _ (by decide +kernel)) ggX10_head_X10_sizeAt
theorem dX10_head_0 : decode cX10_head 0 = .ok (.aload_n 0, 1) := by decide +kernel
theorem dX10_head_1 : decode cX10_head 1 = .ok (.getfield 194, 3) := by decide +kernel
theorem dX10_head_4 : decode cX10_head 4 = .ok (.iload_n 2, 1) := by decide +kernel
theorem dX10_head_5 : decode cX10_head 5 = .ok (.if_icmp .lt 10, 3) := by decide +kernel
theorem dX10_head_8 : decode cX10_head 8 = .ok (.aload_n 0, 1) := by decide +kernel
theorem dX10_head_9 : decode cX10_head 9 = .ok (.iconst 1, 1) := by decide +kernel
theorem dX10_head_10 : decode cX10_head 10 = .ok (.iload_n 1, 1) := by decide +kernel
theorem dX10_head_11 : decode cX10_head 11 = .ok (.invokevirtual 151, 3) := by decide +kernel
theorem dX10_head_14 : decode cX10_head 14 = .ok (.ireturn, 1) := by decide +kernel
theorem dX10_head_15 : decode cX10_head 15 = .ok (.aload_n 0, 1) := by decide +kernel
theorem dX10_head_16 : decode cX10_head 16 = .ok (.aload_n 0, 1) := by decide +kernel
theorem dX10_head_17 : decode cX10_head 17 = .ok (.getfield 194, 3) := by decide +kernel
theorem dX10_head_20 : decode cX10_head 20 = .ok (.invokevirtual 125, 3) := by decide +kernel
theorem dX10_head_23 : decode cX10_head 23 = .ok (.invokestatic 188, 3) := by decide +kernel
theorem dX10_head_26 : decode cX10_head 26 = .ok (.istore 4, 2) := by decide +kernel
theorem dX10_head_28 : decode cX10_head 28 = .ok (.iload 4, 2) := by decide +kernel
theorem dX10_head_30 : decode cX10_head 30 = .ok (.bipush 8, 2) := by decide +kernel
theorem dX10_head_32 : decode cX10_head 32 = .ok (.if_icmp .le 10, 3) := by decide +kernel
theorem dX10_head_35 : decode cX10_head 35 = .ok (.aload_n 0, 1) := by decide +kernel
theorem dX10_head_36 : decode cX10_head 36 = .ok (.iconst 3, 1) := by decide +kernel
theorem dX10_head_37 : decode cX10_head 37 = .ok (.iload_n 1, 1) := by decide +kernel
theorem dX10_head_38 : decode cX10_head 38 = .ok (.invokevirtual 151, 3) := by decide +kernel
theorem dX10_head_41 : decode cX10_head 41 = .ok (.ireturn, 1) := by decide +kernel
theorem dX10_head_42 : decode cX10_head 42 = .ok (.aload_n 0, 1) := by decide +kernel
theorem dX10_head_43 : decode cX10_head 43 = .ok (.getfield 194, 3) := by decide +kernel
theorem dX10_head_46 : decode cX10_head 46 = .ok (.iload 4, 2) := by decide +kernel
theorem dX10_head_48 : decode cX10_head 48 = .ok (.iadd, 1) := by decide +kernel
theorem dX10_head_49 : decode cX10_head 49 = .ok (.iload_n 2, 1) := by decide +kernel
theorem dX10_head_50 : decode cX10_head 50 = .ok (.if_icmp .le 10, 3) := by decide +kernel
theorem dX10_head_53 : decode cX10_head 53 = .ok (.aload_n 0, 1) := by decide +kernel
theorem dX10_head_54 : decode cX10_head 54 = .ok (.iconst 1, 1) := by decide +kernel
theorem dX10_head_55 : decode cX10_head 55 = .ok (.iload_n 1, 1) := by decide +kernel
theorem dX10_head_56 : decode cX10_head 56 = .ok (.invokevirtual 151, 3) := by decide +kernel
theorem dX10_head_59 : decode cX10_head 59 = .ok (.ireturn, 1) := by decide +kernel
theorem dX10_head_60 : decode cX10_head 60 = .ok (.aload_n 0, 1) := by decide +kernel
theorem dX10_head_61 : decode cX10_head 61 = .ok (.aload_n 0, 1) := by decide +kernel
theorem dX10_head_62 : decode cX10_head 62 = .ok (.getfield 194, 3) := by decide +kernel
theorem dX10_head_65 : decode cX10_head 65 = .ok (.iload 4, 2) := by decide +kernel
theorem dX10_head_67 : decode cX10_head 67 = .ok (.invokevirtual 200, 3) := by decide +kernel
theorem dX10_head_70 : decode cX10_head 70 = .ok (.lstore 5, 2) := by decide +kernel
theorem dX10_head_72 : decode cX10_head 72 = .ok (.aload_n 0, 1) := by decide +kernel
theorem dX10_head_73 : decode cX10_head 73 = .ok (.lload 5, 2) := by decide +kernel
theorem dX10_head_75 : decode cX10_head 75 = .ok (.ldc2_w 65, 3) := by decide +kernel
theorem dX10_head_78 : decode cX10_head 78 = .ok (.lcmp, 1) := by decide +kernel
theorem dX10_head_79 : decode cX10_head 79 = .ok (.ifCond .ne 7, 3) := by decide +kernel
theorem dX10_head_82 : decode cX10_head 82 = .ok (.iconst 1, 1) := by decide +kernel
theorem dX10_head_83 : decode cX10_head 83 = .ok (.goto 4, 3) := by decide +kernel
theorem dX10_head_86 : decode cX10_head 86 = .ok (.iconst 0, 1) := by decide +kernel
theorem dX10_head_87 : decode cX10_head 87 = .ok (.putfield 203, 3) := by decide +kernel
theorem dX10_head_90 : decode cX10_head 90 = .ok (.iload_n 3, 1) := by decide +kernel
theorem dX10_head_91 : decode cX10_head 91 = .ok (.ifCond .ne 12, 3) := by decide +kernel
theorem dX10_head_94 : decode cX10_head 94 = .ok (.aload_n 0, 1) := by decide +kernel
theorem dX10_head_95 : decode cX10_head 95 = .ok (.getfield 191, 3) := by decide +kernel
theorem dX10_head_98 : decode cX10_head 98 = .ok (.ldc 206, 2) := by decide +kernel
theorem dX10_head_100 : decode cX10_head 100 = .ok (.if_icmp .eq 17, 3) := by decide +kernel
theorem dX10_head_103 : decode cX10_head 103 = .ok (.iload_n 3, 1) := by decide +kernel
theorem dX10_head_104 : decode cX10_head 104 = .ok (.iconst 2, 1) := by decide +kernel
theorem dX10_head_105 : decode cX10_head 105 = .ok (.if_icmp .ne 16, 3) := by decide +kernel
theorem dX10_head_108 : decode cX10_head 108 = .ok (.aload_n 0, 1) := by decide +kernel
theorem dX10_head_109 : decode cX10_head 109 = .ok (.getfield 191, 3) := by decide +kernel
theorem dX10_head_112 : decode cX10_head 112 = .ok (.ldc 207, 2) := by decide +kernel
theorem dX10_head_114 : decode cX10_head 114 = .ok (.if_icmp .ne 7, 3) := by decide +kernel
theorem dX10_head_117 : decode cX10_head 117 = .ok (.iconst 1, 1) := by decide +kernel
theorem dX10_head_118 : decode cX10_head 118 = .ok (.goto 4, 3) := by decide +kernel
theorem dX10_head_121 : decode cX10_head 121 = .ok (.iconst 0, 1) := by decide +kernel
theorem dX10_head_122 : decode cX10_head 122 = .ok (.istore 7, 2) := by decide +kernel
theorem dX10_head_124 : decode cX10_head 124 = .ok (.aload_n 0, 1) := by decide +kernel
theorem dX10_head_125 : decode cX10_head 125 = .ok (.getfield 203, 3) := by decide +kernel
theorem dX10_head_128 : decode cX10_head 128 = .ok (.ifCond .eq 8, 3) := by decide +kernel
theorem dX10_head_131 : decode cX10_head 131 = .ok (.iload 7, 2) := by decide +kernel
theorem dX10_head_133 : decode cX10_head 133 = .ok (.ifCond .eq 12, 3) := by decide +kernel
theorem dX10_head_136 : decode cX10_head 136 = .ok (.lload 5, 2) := by decide +kernel
theorem dX10_head_138 : decode cX10_head 138 = .ok (.ldc2_w 208, 3) := by decide +kernel
theorem dX10_head_141 : decode cX10_head 141 = .ok (.lcmp, 1) := by decide +kernel
theorem dX10_head_142 : decode cX10_head 142 = .ok (.ifCond .le 10, 3) := by decide +kernel
theorem dX10_head_145 : decode cX10_head 145 = .ok (.aload_n 0, 1) := by decide +kernel
theorem dX10_head_146 : decode cX10_head 146 = .ok (.iconst 3, 1) := by decide +kernel
theorem dX10_head_147 : decode cX10_head 147 = .ok (.iload_n 1, 1) := by decide +kernel
theorem dX10_head_148 : decode cX10_head 148 = .ok (.invokevirtual 151, 3) := by decide +kernel
theorem dX10_head_151 : decode cX10_head 151 = .ok (.ireturn, 1) := by decide +kernel
theorem dX10_head_152 : decode cX10_head 152 = .ok (.aload_n 0, 1) := by decide +kernel
theorem dX10_head_153 : decode cX10_head 153 = .ok (.dup, 1) := by decide +kernel
theorem dX10_head_154 : decode cX10_head 154 = .ok (.getfield 194, 3) := by decide +kernel
theorem dX10_head_157 : decode cX10_head 157 = .ok (.iload 4, 2) := by decide +kernel
theorem dX10_head_159 : decode cX10_head 159 = .ok (.iadd, 1) := by decide +kernel
theorem dX10_head_160 : decode cX10_head 160 = .ok (.putfield 194, 3) := by decide +kernel
theorem dX10_head_163 : decode cX10_head 163 = .ok (.aload_n 0, 1) := by decide +kernel
theorem dX10_head_164 : decode cX10_head 164 = .ok (.getfield 203, 3) := by decide +kernel
theorem dX10_head_167 : decode cX10_head 167 = .ok (.ifCond .eq 10, 3) := by decide +kernel
theorem dX10_head_170 : decode cX10_head 170 = .ok (.aload_n 0, 1) := by decide +kernel
theorem dX10_head_171 : decode cX10_head 171 = .ok (.iload_n 2, 1) := by decide +kernel
theorem dX10_head_172 : decode cX10_head 172 = .ok (.putfield 210, 3) := by decide +kernel
theorem dX10_head_175 : decode cX10_head 175 = .ok (.iconst 1, 1) := by decide +kernel
theorem dX10_head_176 : decode cX10_head 176 = .ok (.ireturn, 1) := by decide +kernel
theorem dX10_head_177 : decode cX10_head 177 = .ok (.lload 5, 2) := by decide +kernel
theorem dX10_head_179 : decode cX10_head 179 = .ok (.iload_n 2, 1) := by decide +kernel
theorem dX10_head_180 : decode cX10_head 180 = .ok (.aload_n 0, 1) := by decide +kernel
theorem dX10_head_181 : decode cX10_head 181 = .ok (.getfield 194, 3) := by decide +kernel
theorem dX10_head_184 : decode cX10_head 184 = .ok (.isub, 1) := by decide +kernel
theorem dX10_head_185 : decode cX10_head 185 = .ok (.i2l, 1) := by decide +kernel
theorem dX10_head_186 : decode cX10_head 186 = .ok (.lcmp, 1) := by decide +kernel
theorem dX10_head_187 : decode cX10_head 187 = .ok (.ifCond .le 10, 3) := by decide +kernel
theorem dX10_head_190 : decode cX10_head 190 = .ok (.aload_n 0, 1) := by decide +kernel
theorem dX10_head_191 : decode cX10_head 191 = .ok (.iconst 1, 1) := by decide +kernel
theorem dX10_head_192 : decode cX10_head 192 = .ok (.iload_n 1, 1) := by decide +kernel
theorem dX10_head_193 : decode cX10_head 193 = .ok (.invokevirtual 151, 3) := by decide +kernel
theorem dX10_head_196 : decode cX10_head 196 = .ok (.ireturn, 1) := by decide +kernel
theorem dX10_head_197 : decode cX10_head 197 = .ok (.aload_n 0, 1) := by decide +kernel
theorem dX10_head_198 : decode cX10_head 198 = .ok (.aload_n 0, 1) := by decide +kernel
theorem dX10_head_199 : decode cX10_head 199 = .ok (.getfield 194, 3) := by decide +kernel
theorem dX10_head_202 : decode cX10_head 202 = .ok (.lload 5, 2) := by decide +kernel
theorem dX10_head_204 : decode cX10_head 204 = .ok (.l2i, 1) := by decide +kernel
theorem dX10_head_205 : decode cX10_head 205 = .ok (.iadd, 1) := by decide +kernel
theorem dX10_head_206 : decode cX10_head 206 = .ok (.putfield 210, 3) := by decide +kernel
theorem dX10_head_209 : decode cX10_head 209 = .ok (.iconst 1, 1) := by decide +kernel
theorem dX10_head_210 : decode cX10_head 210 = .ok (.ireturn, 1) := by decide +kernel
set_option maxRecDepth 20000 in
theorem ggX10_mayStand_X10_bitOfHead : GoodIn wsX10_mayStand wsX10_bitOfHead := goodIn_r _ [12, 1, 13, 14, 15, 16, 17, 18, 19, 20, 21, 22, 23, 24, 25, 26, 27, 28, 29, 30, 31, 32, 33, 34, 35, 36, 37, 38, 39, 40, 41, 42, 43, 44, 45, 46, 47, 48, 49, 50, 51, 52, 53, 54, 55, 56, 57, 58] (by decide +kernel) (by decide +kernel)
set_option maxRecDepth 20000 in
theorem gX10_mayStand_X10_bitOfHead : GoodIn wsX10_mayStand (wsV RX10 214 RX10 yX10_bitOfHead wsX10_bitOfHead) := goodIn_app (goodIn_of _ (by decide +kernel)) ggX10_mayStand_X10_bitOfHead
theorem dX10_mayStand_0 : decode cX10_mayStand 0 = .ok (.aload_n 0, 1) := by decide +kernel
theorem dX10_mayStand_1 : decode cX10_mayStand 1 = .ok (.getfield 191, 3) := by decide +kernel
theorem dX10_mayStand_4 : decode cX10_mayStand 4 = .ok (.sipush 236, 3) := by decide +kernel
theorem dX10_mayStand_7 : decode cX10_mayStand 7 = .ok (.if_icmp .ne 5, 3) := by decide +kernel
theorem dX10_mayStand_10 : decode cX10_mayStand 10 = .ok (.iconst 1, 1) := by decide +kernel
theorem dX10_mayStand_11 : decode cX10_mayStand 11 = .ok (.ireturn, 1) := by decide +kernel
theorem dX10_mayStand_12 : decode cX10_mayStand 12 = .ok (.iload_n 1, 1) := by decide +kernel
theorem dX10_mayStand_13 : decode cX10_mayStand 13 = .ok (.tableswitch 286 0 6 #[43, 79, 92, 143, 178, 194, 250], 43) := by decide +kernel
theorem dX10_mayStand_56 : decode cX10_mayStand 56 = .ok (.iload_n 2, 1) := by decide +kernel
theorem dX10_mayStand_57 : decode cX10_mayStand 57 = .ok (.iconst 2, 1) := by decide +kernel
theorem dX10_mayStand_58 : decode cX10_mayStand 58 = .ok (.iand, 1) := by decide +kernel
theorem dX10_mayStand_59 : decode cX10_mayStand 59 = .ok (.ifCond .ne 31, 3) := by decide +kernel
theorem dX10_mayStand_62 : decode cX10_mayStand 62 = .ok (.aload_n 0, 1) := by decide +kernel
theorem dX10_mayStand_63 : decode cX10_mayStand 63 = .ok (.getfield 191, 3) := by decide +kernel
theorem dX10_mayStand_66 : decode cX10_mayStand 66 = .ok (.ldc 213, 2) := by decide +kernel
theorem dX10_mayStand_68 : decode cX10_mayStand 68 = .ok (.if_icmp .eq 18, 3) := by decide +kernel
theorem dX10_mayStand_71 : decode cX10_mayStand 71 = .ok (.aload_n 0, 1) := by decide +kernel
theorem dX10_mayStand_72 : decode cX10_mayStand 72 = .ok (.getfield 191, 3) := by decide +kernel
theorem dX10_mayStand_75 : decode cX10_mayStand 75 = .ok (.ldc 206, 2) := by decide +kernel
theorem dX10_mayStand_77 : decode cX10_mayStand 77 = .ok (.if_icmp .ne 13, 3) := by decide +kernel
theorem dX10_mayStand_80 : decode cX10_mayStand 80 = .ok (.iload_n 2, 1) := by decide +kernel
theorem dX10_mayStand_81 : decode cX10_mayStand 81 = .ok (.iconst 1, 1) := by decide +kernel
theorem dX10_mayStand_82 : decode cX10_mayStand 82 = .ok (.iand, 1) := by decide +kernel
theorem dX10_mayStand_83 : decode cX10_mayStand 83 = .ok (.ifCond .eq 7, 3) := by decide +kernel
theorem dX10_mayStand_86 : decode cX10_mayStand 86 = .ok (.iconst 1, 1) := by decide +kernel
theorem dX10_mayStand_87 : decode cX10_mayStand 87 = .ok (.goto 4, 3) := by decide +kernel
theorem dX10_mayStand_90 : decode cX10_mayStand 90 = .ok (.iconst 0, 1) := by decide +kernel
theorem dX10_mayStand_91 : decode cX10_mayStand 91 = .ok (.ireturn, 1) := by decide +kernel
theorem dX10_mayStand_92 : decode cX10_mayStand 92 = .ok (.aload_n 0, 1) := by decide +kernel
theorem dX10_mayStand_93 : decode cX10_mayStand 93 = .ok (.invokevirtual 214, 3) := by decide +kernel
theorem dX10_mayStand_96 : decode cX10_mayStand 96 = .ok (.ifCond .eq 7, 3) := by decide +kernel
theorem dX10_mayStand_99 : decode cX10_mayStand 99 = .ok (.iconst 1, 1) := by decide +kernel
theorem dX10_mayStand_100 : decode cX10_mayStand 100 = .ok (.goto 4, 3) := by decide +kernel
theorem dX10_mayStand_103 : decode cX10_mayStand 103 = .ok (.iconst 0, 1) := by decide +kernel
theorem dX10_mayStand_104 : decode cX10_mayStand 104 = .ok (.ireturn, 1) := by decide +kernel
theorem dX10_mayStand_105 : decode cX10_mayStand 105 = .ok (.aload_n 0, 1) := by decide +kernel
theorem dX10_mayStand_106 : decode cX10_mayStand 106 = .ok (.getfield 191, 3) := by decide +kernel
theorem dX10_mayStand_109 : decode cX10_mayStand 109 = .ok (.ldc 207, 2) := by decide +kernel
theorem dX10_mayStand_111 : decode cX10_mayStand 111 = .ok (.if_icmp .ne 15, 3) := by decide +kernel
theorem dX10_mayStand_114 : decode cX10_mayStand 114 = .ok (.iload_n 2, 1) := by decide +kernel
theorem dX10_mayStand_115 : decode cX10_mayStand 115 = .ok (.iconst 2, 1) := by decide +kernel
theorem dX10_mayStand_116 : decode cX10_mayStand 116 = .ok (.iand, 1) := by decide +kernel
theorem dX10_mayStand_117 : decode cX10_mayStand 117 = .ok (.ifCond .eq 7, 3) := by decide +kernel
theorem dX10_mayStand_120 : decode cX10_mayStand 120 = .ok (.iconst 1, 1) := by decide +kernel
theorem dX10_mayStand_121 : decode cX10_mayStand 121 = .ok (.goto 4, 3) := by decide +kernel
theorem dX10_mayStand_124 : decode cX10_mayStand 124 = .ok (.iconst 0, 1) := by decide +kernel
theorem dX10_mayStand_125 : decode cX10_mayStand 125 = .ok (.ireturn, 1) := by decide +kernel
theorem dX10_mayStand_126 : decode cX10_mayStand 126 = .ok (.aload_n 0, 1) := by decide +kernel
theorem dX10_mayStand_127 : decode cX10_mayStand 127 = .ok (.getfield 191, 3) := by decide +kernel
theorem dX10_mayStand_130 : decode cX10_mayStand 130 = .ok (.ldc 217, 2) := by decide +kernel
theorem dX10_mayStand_132 : decode cX10_mayStand 132 = .ok (.if_icmp .eq 12, 3) := by decide +kernel
theorem dX10_mayStand_135 : decode cX10_mayStand 135 = .ok (.aload_n 0, 1) := by decide +kernel
theorem dX10_mayStand_136 : decode cX10_mayStand 136 = .ok (.getfield 191, 3) := by decide +kernel
theorem dX10_mayStand_139 : decode cX10_mayStand 139 = .ok (.ldc 218, 2) := by decide +kernel
theorem dX10_mayStand_141 : decode cX10_mayStand 141 = .ok (.if_icmp .ne 13, 3) := by decide +kernel
theorem dX10_mayStand_144 : decode cX10_mayStand 144 = .ok (.iload_n 2, 1) := by decide +kernel
theorem dX10_mayStand_145 : decode cX10_mayStand 145 = .ok (.iconst 4, 1) := by decide +kernel
theorem dX10_mayStand_146 : decode cX10_mayStand 146 = .ok (.iand, 1) := by decide +kernel
theorem dX10_mayStand_147 : decode cX10_mayStand 147 = .ok (.ifCond .ne 7, 3) := by decide +kernel
theorem dX10_mayStand_150 : decode cX10_mayStand 150 = .ok (.iconst 1, 1) := by decide +kernel
theorem dX10_mayStand_151 : decode cX10_mayStand 151 = .ok (.goto 4, 3) := by decide +kernel
theorem dX10_mayStand_154 : decode cX10_mayStand 154 = .ok (.iconst 0, 1) := by decide +kernel
theorem dX10_mayStand_155 : decode cX10_mayStand 155 = .ok (.ireturn, 1) := by decide +kernel
theorem dX10_mayStand_156 : decode cX10_mayStand 156 = .ok (.aload_n 0, 1) := by decide +kernel
theorem dX10_mayStand_157 : decode cX10_mayStand 157 = .ok (.getfield 191, 3) := by decide +kernel
theorem dX10_mayStand_160 : decode cX10_mayStand 160 = .ok (.ldc 219, 2) := by decide +kernel
theorem dX10_mayStand_162 : decode cX10_mayStand 162 = .ok (.if_icmp .eq 23, 3) := by decide +kernel
theorem dX10_mayStand_165 : decode cX10_mayStand 165 = .ok (.aload_n 0, 1) := by decide +kernel
theorem dX10_mayStand_166 : decode cX10_mayStand 166 = .ok (.getfield 191, 3) := by decide +kernel
theorem dX10_mayStand_169 : decode cX10_mayStand 169 = .ok (.sipush 19840, 3) := by decide +kernel
theorem dX10_mayStand_172 : decode cX10_mayStand 172 = .ok (.if_icmp .eq 13, 3) := by decide +kernel
theorem dX10_mayStand_175 : decode cX10_mayStand 175 = .ok (.aload_n 0, 1) := by decide +kernel
theorem dX10_mayStand_176 : decode cX10_mayStand 176 = .ok (.getfield 191, 3) := by decide +kernel
theorem dX10_mayStand_179 : decode cX10_mayStand 179 = .ok (.sipush 22337, 3) := by decide +kernel
theorem dX10_mayStand_182 : decode cX10_mayStand 182 = .ok (.if_icmp .ne 7, 3) := by decide +kernel
theorem dX10_mayStand_185 : decode cX10_mayStand 185 = .ok (.iconst 1, 1) := by decide +kernel
theorem dX10_mayStand_186 : decode cX10_mayStand 186 = .ok (.goto 4, 3) := by decide +kernel
theorem dX10_mayStand_189 : decode cX10_mayStand 189 = .ok (.iconst 0, 1) := by decide +kernel
theorem dX10_mayStand_190 : decode cX10_mayStand 190 = .ok (.ireturn, 1) := by decide +kernel
theorem dX10_mayStand_191 : decode cX10_mayStand 191 = .ok (.aload_n 0, 1) := by decide +kernel
theorem dX10_mayStand_192 : decode cX10_mayStand 192 = .ok (.getfield 191, 3) := by decide +kernel
theorem dX10_mayStand_195 : decode cX10_mayStand 195 = .ok (.sipush 174, 3) := by decide +kernel
theorem dX10_mayStand_198 : decode cX10_mayStand 198 = .ok (.if_icmp .ne 7, 3) := by decide +kernel
theorem dX10_mayStand_201 : decode cX10_mayStand 201 = .ok (.iconst 1, 1) := by decide +kernel
theorem dX10_mayStand_202 : decode cX10_mayStand 202 = .ok (.goto 4, 3) := by decide +kernel
theorem dX10_mayStand_205 : decode cX10_mayStand 205 = .ok (.iconst 0, 1) := by decide +kernel
theorem dX10_mayStand_206 : decode cX10_mayStand 206 = .ok (.ireturn, 1) := by decide +kernel
theorem dX10_mayStand_207 : decode cX10_mayStand 207 = .ok (.aload_n 0, 1) := by decide +kernel
theorem dX10_mayStand_208 : decode cX10_mayStand 208 = .ok (.getfield 191, 3) := by decide +kernel
theorem dX10_mayStand_211 : decode cX10_mayStand 211 = .ok (.sipush 215, 3) := by decide +kernel
theorem dX10_mayStand_214 : decode cX10_mayStand 214 = .ok (.if_icmp .eq 43, 3) := by decide +kernel
theorem dX10_mayStand_217 : decode cX10_mayStand 217 = .ok (.aload_n 0, 1) := by decide +kernel
theorem dX10_mayStand_218 : decode cX10_mayStand 218 = .ok (.getfield 191, 3) := by decide +kernel
theorem dX10_mayStand_221 : decode cX10_mayStand 221 = .ok (.sipush 131, 3) := by decide +kernel
theorem dX10_mayStand_224 : decode cX10_mayStand 224 = .ok (.if_icmp .eq 33, 3) := by decide +kernel
theorem dX10_mayStand_227 : decode cX10_mayStand 227 = .ok (.aload_n 0, 1) := by decide +kernel
theorem dX10_mayStand_228 : decode cX10_mayStand 228 = .ok (.getfield 191, 3) := by decide +kernel
theorem dX10_mayStand_231 : decode cX10_mayStand 231 = .ok (.sipush 134, 3) := by decide +kernel
theorem dX10_mayStand_234 : decode cX10_mayStand 234 = .ok (.if_icmp .eq 23, 3) := by decide +kernel
theorem dX10_mayStand_237 : decode cX10_mayStand 237 = .ok (.aload_n 0, 1) := by decide +kernel
theorem dX10_mayStand_238 : decode cX10_mayStand 238 = .ok (.getfield 191, 3) := by decide +kernel
theorem dX10_mayStand_241 : decode cX10_mayStand 241 = .ok (.sipush 29637, 3) := by decide +kernel
theorem dX10_mayStand_244 : decode cX10_mayStand 244 = .ok (.if_icmp .eq 13, 3) := by decide +kernel
theorem dX10_mayStand_247 : decode cX10_mayStand 247 = .ok (.aload_n 0, 1) := by decide +kernel
theorem dX10_mayStand_248 : decode cX10_mayStand 248 = .ok (.getfield 191, 3) := by decide +kernel
theorem dX10_mayStand_251 : decode cX10_mayStand 251 = .ok (.sipush 156, 3) := by decide +kernel
theorem dX10_mayStand_254 : decode cX10_mayStand 254 = .ok (.if_icmp .ne 7, 3) := by decide +kernel
theorem dX10_mayStand_257 : decode cX10_mayStand 257 = .ok (.iconst 1, 1) := by decide +kernel
theorem dX10_mayStand_258 : decode cX10_mayStand 258 = .ok (.goto 4, 3) := by decide +kernel
theorem dX10_mayStand_261 : decode cX10_mayStand 261 = .ok (.iconst 0, 1) := by decide +kernel
theorem dX10_mayStand_262 : decode cX10_mayStand 262 = .ok (.ireturn, 1) := by decide +kernel
theorem dX10_mayStand_263 : decode cX10_mayStand 263 = .ok (.aload_n 0, 1) := by decide +kernel
theorem dX10_mayStand_264 : decode cX10_mayStand 264 = .ok (.getfield 191, 3) := by decide +kernel
theorem dX10_mayStand_267 : decode cX10_mayStand 267 = .ok (.sipush 231, 3) := by decide +kernel
theorem dX10_mayStand_270 : decode cX10_mayStand 270 = .ok (.if_icmp .eq 23, 3) := by decide +kernel
theorem dX10_mayStand_273 : decode cX10_mayStand 273 = .ok (.aload_n 0, 1) := by decide +kernel
theorem dX10_mayStand_274 : decode cX10_mayStand 274 = .ok (.getfield 191, 3) := by decide +kernel
theorem dX10_mayStand_277 : decode cX10_mayStand 277 = .ok (.sipush 163, 3) := by decide +kernel
theorem dX10_mayStand_280 : decode cX10_mayStand 280 = .ok (.if_icmp .eq 13, 3) := by decide +kernel
theorem dX10_mayStand_283 : decode cX10_mayStand 283 = .ok (.aload_n 0, 1) := by decide +kernel
theorem dX10_mayStand_284 : decode cX10_mayStand 284 = .ok (.getfield 191, 3) := by decide +kernel
theorem dX10_mayStand_287 : decode cX10_mayStand 287 = .ok (.sipush 160, 3) := by decide +kernel
theorem dX10_mayStand_290 : decode cX10_mayStand 290 = .ok (.if_icmp .ne 7, 3) := by decide +kernel
theorem dX10_mayStand_293 : decode cX10_mayStand 293 = .ok (.iconst 1, 1) := by decide +kernel
theorem dX10_mayStand_294 : decode cX10_mayStand 294 = .ok (.goto 4, 3) := by decide +kernel
theorem dX10_mayStand_297 : decode cX10_mayStand 297 = .ok (.iconst 0, 1) := by decide +kernel
theorem dX10_mayStand_298 : decode cX10_mayStand 298 = .ok (.ireturn, 1) := by decide +kernel
theorem dX10_mayStand_299 : decode cX10_mayStand 299 = .ok (.aload_n 0, 1) := by decide +kernel
theorem dX10_mayStand_300 : decode cX10_mayStand 300 = .ok (.getfield 191, 3) := by decide +kernel
theorem dX10_mayStand_303 : decode cX10_mayStand 303 = .ok (.sipush 161, 3) := by decide +kernel
theorem dX10_mayStand_306 : decode cX10_mayStand 306 = .ok (.if_icmp .eq 13, 3) := by decide +kernel
theorem dX10_mayStand_309 : decode cX10_mayStand 309 = .ok (.aload_n 0, 1) := by decide +kernel
theorem dX10_mayStand_310 : decode cX10_mayStand 310 = .ok (.getfield 191, 3) := by decide +kernel
theorem dX10_mayStand_313 : decode cX10_mayStand 313 = .ok (.sipush 155, 3) := by decide +kernel
theorem dX10_mayStand_316 : decode cX10_mayStand 316 = .ok (.if_icmp .ne 7, 3) := by decide +kernel
theorem dX10_mayStand_319 : decode cX10_mayStand 319 = .ok (.iconst 1, 1) := by decide +kernel
theorem dX10_mayStand_320 : decode cX10_mayStand 320 = .ok (.goto 4, 3) := by decide +kernel
theorem dX10_mayStand_323 : decode cX10_mayStand 323 = .ok (.iconst 0, 1) := by decide +kernel
theorem dX10_mayStand_324 : decode cX10_mayStand 324 = .ok (.ireturn, 1) := by decide +kernel
theorem dX10_bitOfHead_0 : decode cX10_bitOfHead 0 = .ok (.aload_n 0, 1) := by decide +kernel
theorem dX10_bitOfHead_1 : decode cX10_bitOfHead 1 = .ok (.getfield 191, 3) := by decide +kernel
theorem dX10_bitOfHead_4 : decode cX10_bitOfHead 4 = .ok (.sipush 17030, 3) := by decide +kernel
theorem dX10_bitOfHead_7 : decode cX10_bitOfHead 7 = .ok (.if_icmp .ne 7, 3) := by decide +kernel
theorem dX10_bitOfHead_10 : decode cX10_bitOfHead 10 = .ok (.iconst 1, 1) := by decide +kernel
theorem dX10_bitOfHead_11 : decode cX10_bitOfHead 11 = .ok (.goto 92, 3) := by decide +kernel
theorem dX10_bitOfHead_14 : decode cX10_bitOfHead 14 = .ok (.aload_n 0, 1) := by decide +kernel
theorem dX10_bitOfHead_15 : decode cX10_bitOfHead 15 = .ok (.getfield 191, 3) := by decide +kernel
theorem dX10_bitOfHead_18 : decode cX10_bitOfHead 18 = .ok (.sipush 17143, 3) := by decide +kernel
theorem dX10_bitOfHead_21 : decode cX10_bitOfHead 21 = .ok (.if_icmp .ne 7, 3) := by decide +kernel
theorem dX10_bitOfHead_24 : decode cX10_bitOfHead 24 = .ok (.iconst 2, 1) := by decide +kernel
theorem dX10_bitOfHead_25 : decode cX10_bitOfHead 25 = .ok (.goto 78, 3) := by decide +kernel
theorem dX10_bitOfHead_28 : decode cX10_bitOfHead 28 = .ok (.aload_n 0, 1) := by decide +kernel
theorem dX10_bitOfHead_29 : decode cX10_bitOfHead 29 = .ok (.getfield 191, 3) := by decide +kernel
theorem dX10_bitOfHead_32 : decode cX10_bitOfHead 32 = .ok (.sipush 17138, 3) := by decide +kernel
theorem dX10_bitOfHead_35 : decode cX10_bitOfHead 35 = .ok (.if_icmp .ne 7, 3) := by decide +kernel
theorem dX10_bitOfHead_38 : decode cX10_bitOfHead 38 = .ok (.iconst 4, 1) := by decide +kernel
theorem dX10_bitOfHead_39 : decode cX10_bitOfHead 39 = .ok (.goto 64, 3) := by decide +kernel
theorem dX10_bitOfHead_42 : decode cX10_bitOfHead 42 = .ok (.aload_n 0, 1) := by decide +kernel
theorem dX10_bitOfHead_43 : decode cX10_bitOfHead 43 = .ok (.getfield 191, 3) := by decide +kernel
theorem dX10_bitOfHead_46 : decode cX10_bitOfHead 46 = .ok (.sipush 17139, 3) := by decide +kernel
theorem dX10_bitOfHead_49 : decode cX10_bitOfHead 49 = .ok (.if_icmp .ne 8, 3) := by decide +kernel
theorem dX10_bitOfHead_52 : decode cX10_bitOfHead 52 = .ok (.bipush 8, 2) := by decide +kernel
theorem dX10_bitOfHead_54 : decode cX10_bitOfHead 54 = .ok (.goto 49, 3) := by decide +kernel
theorem dX10_bitOfHead_57 : decode cX10_bitOfHead 57 = .ok (.aload_n 0, 1) := by decide +kernel
theorem dX10_bitOfHead_58 : decode cX10_bitOfHead 58 = .ok (.getfield 191, 3) := by decide +kernel
theorem dX10_bitOfHead_61 : decode cX10_bitOfHead 61 = .ok (.sipush 17026, 3) := by decide +kernel
theorem dX10_bitOfHead_64 : decode cX10_bitOfHead 64 = .ok (.if_icmp .ne 8, 3) := by decide +kernel
theorem dX10_bitOfHead_67 : decode cX10_bitOfHead 67 = .ok (.bipush 16, 2) := by decide +kernel
theorem dX10_bitOfHead_69 : decode cX10_bitOfHead 69 = .ok (.goto 34, 3) := by decide +kernel
theorem dX10_bitOfHead_72 : decode cX10_bitOfHead 72 = .ok (.aload_n 0, 1) := by decide +kernel
theorem dX10_bitOfHead_73 : decode cX10_bitOfHead 73 = .ok (.getfield 191, 3) := by decide +kernel
theorem dX10_bitOfHead_76 : decode cX10_bitOfHead 76 = .ok (.sipush 17031, 3) := by decide +kernel
theorem dX10_bitOfHead_79 : decode cX10_bitOfHead 79 = .ok (.if_icmp .ne 8, 3) := by decide +kernel
theorem dX10_bitOfHead_82 : decode cX10_bitOfHead 82 = .ok (.bipush 32, 2) := by decide +kernel
theorem dX10_bitOfHead_84 : decode cX10_bitOfHead 84 = .ok (.goto 19, 3) := by decide +kernel
theorem dX10_bitOfHead_87 : decode cX10_bitOfHead 87 = .ok (.aload_n 0, 1) := by decide +kernel
theorem dX10_bitOfHead_88 : decode cX10_bitOfHead 88 = .ok (.getfield 191, 3) := by decide +kernel
theorem dX10_bitOfHead_91 : decode cX10_bitOfHead 91 = .ok (.sipush 17029, 3) := by decide +kernel
theorem dX10_bitOfHead_94 : decode cX10_bitOfHead 94 = .ok (.if_icmp .ne 8, 3) := by decide +kernel
theorem dX10_bitOfHead_97 : decode cX10_bitOfHead 97 = .ok (.bipush 64, 2) := by decide +kernel
theorem dX10_bitOfHead_99 : decode cX10_bitOfHead 99 = .ok (.goto 4, 3) := by decide +kernel
theorem dX10_bitOfHead_102 : decode cX10_bitOfHead 102 = .ok (.iconst 0, 1) := by decide +kernel
theorem dX10_bitOfHead_103 : decode cX10_bitOfHead 103 = .ok (.ireturn, 1) := by decide +kernel
set_option maxRecDepth 20000 in
theorem ggX10_bit_X10_bitOfHead : GoodIn wsX10_bit wsX10_bitOfHead := goodIn_r _ [11, 1, 12, 13, 14, 15, 16, 17, 18, 19, 20, 21, 22, 23, 24, 25, 26, 27, 28, 29, 30, 31, 32, 33, 34, 35, 36, 37, 38, 39, 40, 41, 42, 43, 44, 45, 46, 47, 48, 49, 50, 51, 52, 53, 54, 55, 56, 57] (by decide +kernel) (by decide +kernel)
set_option maxRecDepth 20000 in
theorem gX10_bit_X10_bitOfHead : GoodIn wsX10_bit (wsV RX10 214 RX10 yX10_bitOfHead wsX10_bitOfHead) := goodIn_app (goodIn_of _ (by decide +kernel)) ggX10_bit_X10_bitOfHead
theorem dX10_bit_0 : decode cX10_bit 0 = .ok (.iload_n 1, 1) := by decide +kernel
theorem dX10_bit_1 : decode cX10_bit 1 = .ok (.tableswitch 253 0 6 #[43, 71, 76, 104, 147, 163, 237], 43) := by decide +kernel
theorem dX10_bit_44 : decode cX10_bit 44 = .ok (.aload_n 0, 1) := by decide +kernel
theorem dX10_bit_45 : decode cX10_bit 45 = .ok (.getfield 191, 3) := by decide +kernel
theorem dX10_bit_48 : decode cX10_bit 48 = .ok (.ldc 213, 2) := by decide +kernel
theorem dX10_bit_50 : decode cX10_bit 50 = .ok (.if_icmp .ne 7, 3) := by decide +kernel
theorem dX10_bit_53 : decode cX10_bit 53 = .ok (.iconst 1, 1) := by decide +kernel
theorem dX10_bit_54 : decode cX10_bit 54 = .ok (.goto 17, 3) := by decide +kernel
theorem dX10_bit_57 : decode cX10_bit 57 = .ok (.aload_n 0, 1) := by decide +kernel
theorem dX10_bit_58 : decode cX10_bit 58 = .ok (.getfield 191, 3) := by decide +kernel
theorem dX10_bit_61 : decode cX10_bit 61 = .ok (.ldc 206, 2) := by decide +kernel
theorem dX10_bit_63 : decode cX10_bit 63 = .ok (.if_icmp .ne 7, 3) := by decide +kernel
theorem dX10_bit_66 : decode cX10_bit 66 = .ok (.iconst 2, 1) := by decide +kernel
theorem dX10_bit_67 : decode cX10_bit 67 = .ok (.goto 4, 3) := by decide +kernel
theorem dX10_bit_70 : decode cX10_bit 70 = .ok (.iconst 0, 1) := by decide +kernel
theorem dX10_bit_71 : decode cX10_bit 71 = .ok (.ireturn, 1) := by decide +kernel
theorem dX10_bit_72 : decode cX10_bit 72 = .ok (.aload_n 0, 1) := by decide +kernel
theorem dX10_bit_73 : decode cX10_bit 73 = .ok (.invokevirtual 214, 3) := by decide +kernel
theorem dX10_bit_76 : decode cX10_bit 76 = .ok (.ireturn, 1) := by decide +kernel
theorem dX10_bit_77 : decode cX10_bit 77 = .ok (.aload_n 0, 1) := by decide +kernel
theorem dX10_bit_78 : decode cX10_bit 78 = .ok (.getfield 191, 3) := by decide +kernel
theorem dX10_bit_81 : decode cX10_bit 81 = .ok (.ldc 217, 2) := by decide +kernel
theorem dX10_bit_83 : decode cX10_bit 83 = .ok (.if_icmp .ne 7, 3) := by decide +kernel
theorem dX10_bit_86 : decode cX10_bit 86 = .ok (.iconst 1, 1) := by decide +kernel
theorem dX10_bit_87 : decode cX10_bit 87 = .ok (.goto 17, 3) := by decide +kernel
theorem dX10_bit_90 : decode cX10_bit 90 = .ok (.aload_n 0, 1) := by decide +kernel
theorem dX10_bit_91 : decode cX10_bit 91 = .ok (.getfield 191, 3) := by decide +kernel
theorem dX10_bit_94 : decode cX10_bit 94 = .ok (.ldc 218, 2) := by decide +kernel
theorem dX10_bit_96 : decode cX10_bit 96 = .ok (.if_icmp .ne 7, 3) := by decide +kernel
theorem dX10_bit_99 : decode cX10_bit 99 = .ok (.iconst 2, 1) := by decide +kernel
theorem dX10_bit_100 : decode cX10_bit 100 = .ok (.goto 4, 3) := by decide +kernel
theorem dX10_bit_103 : decode cX10_bit 103 = .ok (.iconst 0, 1) := by decide +kernel
theorem dX10_bit_104 : decode cX10_bit 104 = .ok (.ireturn, 1) := by decide +kernel
theorem dX10_bit_105 : decode cX10_bit 105 = .ok (.aload_n 0, 1) := by decide +kernel
theorem dX10_bit_106 : decode cX10_bit 106 = .ok (.getfield 191, 3) := by decide +kernel
theorem dX10_bit_109 : decode cX10_bit 109 = .ok (.ldc 219, 2) := by decide +kernel
theorem dX10_bit_111 : decode cX10_bit 111 = .ok (.if_icmp .ne 7, 3) := by decide +kernel
theorem dX10_bit_114 : decode cX10_bit 114 = .ok (.iconst 1, 1) := by decide +kernel
theorem dX10_bit_115 : decode cX10_bit 115 = .ok (.goto 32, 3) := by decide +kernel
theorem dX10_bit_118 : decode cX10_bit 118 = .ok (.aload_n 0, 1) := by decide +kernel
theorem dX10_bit_119 : decode cX10_bit 119 = .ok (.getfield 191, 3) := by decide +kernel
theorem dX10_bit_122 : decode cX10_bit 122 = .ok (.sipush 19840, 3) := by decide +kernel
theorem dX10_bit_125 : decode cX10_bit 125 = .ok (.if_icmp .ne 7, 3) := by decide +kernel
theorem dX10_bit_128 : decode cX10_bit 128 = .ok (.iconst 2, 1) := by decide +kernel
theorem dX10_bit_129 : decode cX10_bit 129 = .ok (.goto 18, 3) := by decide +kernel
theorem dX10_bit_132 : decode cX10_bit 132 = .ok (.aload_n 0, 1) := by decide +kernel
theorem dX10_bit_133 : decode cX10_bit 133 = .ok (.getfield 191, 3) := by decide +kernel
theorem dX10_bit_136 : decode cX10_bit 136 = .ok (.sipush 22337, 3) := by decide +kernel
theorem dX10_bit_139 : decode cX10_bit 139 = .ok (.if_icmp .ne 7, 3) := by decide +kernel
theorem dX10_bit_142 : decode cX10_bit 142 = .ok (.iconst 4, 1) := by decide +kernel
theorem dX10_bit_143 : decode cX10_bit 143 = .ok (.goto 4, 3) := by decide +kernel
theorem dX10_bit_146 : decode cX10_bit 146 = .ok (.iconst 0, 1) := by decide +kernel
theorem dX10_bit_147 : decode cX10_bit 147 = .ok (.ireturn, 1) := by decide +kernel
theorem dX10_bit_148 : decode cX10_bit 148 = .ok (.aload_n 0, 1) := by decide +kernel
theorem dX10_bit_149 : decode cX10_bit 149 = .ok (.getfield 191, 3) := by decide +kernel
theorem dX10_bit_152 : decode cX10_bit 152 = .ok (.sipush 174, 3) := by decide +kernel
theorem dX10_bit_155 : decode cX10_bit 155 = .ok (.if_icmp .ne 7, 3) := by decide +kernel
theorem dX10_bit_158 : decode cX10_bit 158 = .ok (.iconst 1, 1) := by decide +kernel
theorem dX10_bit_159 : decode cX10_bit 159 = .ok (.goto 4, 3) := by decide +kernel
theorem dX10_bit_162 : decode cX10_bit 162 = .ok (.iconst 0, 1) := by decide +kernel
theorem dX10_bit_163 : decode cX10_bit 163 = .ok (.ireturn, 1) := by decide +kernel
theorem dX10_bit_164 : decode cX10_bit 164 = .ok (.aload_n 0, 1) := by decide +kernel
theorem dX10_bit_165 : decode cX10_bit 165 = .ok (.getfield 191, 3) := by decide +kernel
theorem dX10_bit_168 : decode cX10_bit 168 = .ok (.sipush 215, 3) := by decide +kernel
theorem dX10_bit_171 : decode cX10_bit 171 = .ok (.if_icmp .ne 7, 3) := by decide +kernel
theorem dX10_bit_174 : decode cX10_bit 174 = .ok (.iconst 1, 1) := by decide +kernel
theorem dX10_bit_175 : decode cX10_bit 175 = .ok (.goto 62, 3) := by decide +kernel
theorem dX10_bit_178 : decode cX10_bit 178 = .ok (.aload_n 0, 1) := by decide +kernel
theorem dX10_bit_179 : decode cX10_bit 179 = .ok (.getfield 191, 3) := by decide +kernel
theorem dX10_bit_182 : decode cX10_bit 182 = .ok (.sipush 131, 3) := by decide +kernel
theorem dX10_bit_185 : decode cX10_bit 185 = .ok (.if_icmp .ne 7, 3) := by decide +kernel
theorem dX10_bit_188 : decode cX10_bit 188 = .ok (.iconst 2, 1) := by decide +kernel
theorem dX10_bit_189 : decode cX10_bit 189 = .ok (.goto 48, 3) := by decide +kernel
theorem dX10_bit_192 : decode cX10_bit 192 = .ok (.aload_n 0, 1) := by decide +kernel
theorem dX10_bit_193 : decode cX10_bit 193 = .ok (.getfield 191, 3) := by decide +kernel
theorem dX10_bit_196 : decode cX10_bit 196 = .ok (.sipush 134, 3) := by decide +kernel
theorem dX10_bit_199 : decode cX10_bit 199 = .ok (.if_icmp .ne 7, 3) := by decide +kernel
theorem dX10_bit_202 : decode cX10_bit 202 = .ok (.iconst 4, 1) := by decide +kernel
theorem dX10_bit_203 : decode cX10_bit 203 = .ok (.goto 34, 3) := by decide +kernel
theorem dX10_bit_206 : decode cX10_bit 206 = .ok (.aload_n 0, 1) := by decide +kernel
theorem dX10_bit_207 : decode cX10_bit 207 = .ok (.getfield 191, 3) := by decide +kernel
theorem dX10_bit_210 : decode cX10_bit 210 = .ok (.sipush 29637, 3) := by decide +kernel
theorem dX10_bit_213 : decode cX10_bit 213 = .ok (.if_icmp .ne 8, 3) := by decide +kernel
theorem dX10_bit_216 : decode cX10_bit 216 = .ok (.bipush 8, 2) := by decide +kernel
theorem dX10_bit_218 : decode cX10_bit 218 = .ok (.goto 19, 3) := by decide +kernel
theorem dX10_bit_221 : decode cX10_bit 221 = .ok (.aload_n 0, 1) := by decide +kernel
theorem dX10_bit_222 : decode cX10_bit 222 = .ok (.getfield 191, 3) := by decide +kernel
theorem dX10_bit_225 : decode cX10_bit 225 = .ok (.sipush 156, 3) := by decide +kernel
theorem dX10_bit_228 : decode cX10_bit 228 = .ok (.if_icmp .ne 8, 3) := by decide +kernel
theorem dX10_bit_231 : decode cX10_bit 231 = .ok (.bipush 16, 2) := by decide +kernel
theorem dX10_bit_233 : decode cX10_bit 233 = .ok (.goto 4, 3) := by decide +kernel
theorem dX10_bit_236 : decode cX10_bit 236 = .ok (.iconst 0, 1) := by decide +kernel
theorem dX10_bit_237 : decode cX10_bit 237 = .ok (.ireturn, 1) := by decide +kernel
theorem dX10_bit_238 : decode cX10_bit 238 = .ok (.aload_n 0, 1) := by decide +kernel
theorem dX10_bit_239 : decode cX10_bit 239 = .ok (.getfield 191, 3) := by decide +kernel
theorem dX10_bit_242 : decode cX10_bit 242 = .ok (.sipush 231, 3) := by decide +kernel
theorem dX10_bit_245 : decode cX10_bit 245 = .ok (.if_icmp .ne 7, 3) := by decide +kernel
theorem dX10_bit_248 : decode cX10_bit 248 = .ok (.iconst 1, 1) := by decide +kernel
theorem dX10_bit_249 : decode cX10_bit 249 = .ok (.goto 4, 3) := by decide +kernel
theorem dX10_bit_252 : decode cX10_bit 252 = .ok (.iconst 0, 1) := by decide +kernel
theorem dX10_bit_253 : decode cX10_bit 253 = .ok (.ireturn, 1) := by decide +kernel
theorem dX10_bit_254 : decode cX10_bit 254 = .ok (.aload_n 0, 1) := by decide +kernel
theorem dX10_bit_255 : decode cX10_bit 255 = .ok (.getfield 191, 3) := by decide +kernel
theorem dX10_bit_258 : decode cX10_bit 258 = .ok (.sipush 161, 3) := by decide +kernel
theorem dX10_bit_261 : decode cX10_bit 261 = .ok (.if_icmp .ne 7, 3) := by decide +kernel
theorem dX10_bit_264 : decode cX10_bit 264 = .ok (.iconst 1, 1) := by decide +kernel
theorem dX10_bit_265 : decode cX10_bit 265 = .ok (.goto 18, 3) := by decide +kernel
theorem dX10_bit_268 : decode cX10_bit 268 = .ok (.aload_n 0, 1) := by decide +kernel
theorem dX10_bit_269 : decode cX10_bit 269 = .ok (.getfield 191, 3) := by decide +kernel
theorem dX10_bit_272 : decode cX10_bit 272 = .ok (.sipush 155, 3) := by decide +kernel
theorem dX10_bit_275 : decode cX10_bit 275 = .ok (.if_icmp .ne 7, 3) := by decide +kernel
theorem dX10_bit_278 : decode cX10_bit 278 = .ok (.iconst 2, 1) := by decide +kernel
theorem dX10_bit_279 : decode cX10_bit 279 = .ok (.goto 4, 3) := by decide +kernel
theorem dX10_bit_282 : decode cX10_bit 282 = .ok (.iconst 0, 1) := by decide +kernel
theorem dX10_bit_283 : decode cX10_bit 283 = .ok (.ireturn, 1) := by decide +kernel
set_option maxRecDepth 20000 in
theorem ggX10_elements_X10_isCluster : GoodIn wsX10_elements wsX10_isCluster := goodIn_r _ [13, 14, 15, 16, 12, 17, 18, 112, 113, 114, 115, 116, 117, 118, 119, 120, 121, 122, 123, 124, 125, 126, 127, 128, 129, 130, 131, 132, 133, 134, 135, 136, 137, 138, 139, 140, 141, 142, 143, 144, 145, 146, 147, 148, 149, 150, 151, 152, 153, 154, 155, 156, 157] (by decide +kernel) (by decide +kernel)
set_option maxRecDepth 20000 in
theorem gX10_elements_X10_isCluster : GoodIn wsX10_elements (wsV RX10 220 RX10 yX10_isCluster wsX10_isCluster) := goodIn_app (goodIn_of _ (by decide +kernel)) ggX10_elements_X10_isCluster
set_option maxRecDepth 20000 in
theorem ggX10_elements_X10_name : GoodIn wsX10_elements wsX10_name := goodIn_r _ [22, 1, 7, 14, 15, 16, 12, 17, 18, 23, 24, 25, 26, 27, 28, 29, 30, 31, 32, 33, 34, 35, 36, 37, 2, 38, 39, 40, 41, 42, 43, 44, 112, 113, 114, 115, 116, 117, 118, 119, 120, 121, 122, 123, 124, 125, 126, 127, 128, 129, 130, 131, 132, 133, 134, 135, 136, 137, 138, 139, 140, 141, 142, 143, 144, 145, 146, 147, 148, 149, 150, 151, 152, 153, 154, 155, 156, 157] (by decide +kernel) (by decide +kernel)
set_option maxRecDepth 20000 in
theorem gX10_elements_X10_name : GoodIn wsX10_elements (wsV RX10 223 RX10 yX10_name wsX10_name) := goodIn_app (goodIn_of _ (by decide +kernel)) ggX10_elements_X10_name
set_option maxRecDepth 20000 in
theorem ggX10_elements_X10_head : GoodIn wsX10_elements wsX10_head := goodIn_r _ [48, 7, 49, 4, 1, 37, 2, 50, 3, 23, 24, 25, 12, 26, 27, 28, 14, 15, 16, 17, 18, 29, 30, 31, 51, 52, 53, 54, 112, 113, 114, 115, 116, 117, 118, 119, 120, 121, 122, 123, 124, 125, 126, 127, 128, 129, 130, 131, 132, 133, 134, 135, 136, 137, 138, 139, 140, 141, 142, 143, 144, 145, 146, 147, 148, 149, 150, 151, 152, 153, 154, 155, 156, 157] (by decide +kernel) (by decide +kernel)
set_option maxRecDepth 20000 in
theorem gX10_elements_X10_head : GoodIn wsX10_elements (wsV RX10 227 RX10 yX10_head wsX10_head) := goodIn_app (goodIn_of _ (by decide +kernel)) ggX10_elements_X10_head
set_option maxRecDepth 20000 in
theorem ggX10_elements_X10_bit : GoodIn wsX10_elements wsX10_bit := goodIn_r _ [58, 1, 36, 37, 38, 39, 40, 41, 42, 43, 12, 44, 112, 113, 114, 115, 116, 117, 118, 119, 120, 121, 122, 123, 124, 125, 126, 127, 128, 129, 130, 131, 132, 133, 134, 135, 136, 137, 138, 139, 140, 141, 142, 143, 144, 145, 146, 147, 148, 149, 150, 151, 152, 153, 154, 155, 156, 157] (by decide +kernel) (by decide +kernel)
set_option maxRecDepth 20000 in
theorem gX10_elements_X10_bit : GoodIn wsX10_elements (wsV RX10 231 RX10 yX10_bit wsX10_bit) := goodIn_app (goodIn_of _ (by decide +kernel)) ggX10_elements_X10_bit
set_option maxRecDepth 20000 in
theorem ggX10_elements_X10_fails : GoodIn wsX10_elements wsX10_fails := goodIn_r _ [26, 27, 28, 112, 113, 114, 115, 116, 117, 118, 119, 120, 121, 122, 123, 124, 125, 126, 127, 128, 129, 130, 131, 132, 133, 134, 135, 136, 137, 138, 139, 140, 141, 142, 143, 144, 145, 146, 147, 148, 149, 150, 151, 152, 153, 154, 155, 156, 157] (by decide +kernel) (by decide +kernel)
set_option maxRecDepth 20000 in
theorem gX10_elements_X10_fails : GoodIn wsX10_elements (wsV RX10 151 RX10 yX10_fails wsX10_fails) := goodIn_app (goodIn_of _ (by decide +kernel)) ggX10_elements_X10_fails
set_option maxRecDepth 20000 in
theorem ggX10_elements_X10_sortOf : GoodIn wsX10_elements wsX10_sortOf := goodIn_r _ [62, 1, 112, 113, 114, 115, 116, 117, 118, 119, 120, 121, 122, 123, 124, 125, 126, 127, 128, 129, 130, 131, 132, 133, 134, 135, 136, 137, 138, 139, 140, 141, 142, 143, 144, 145, 146, 147, 148, 149, 150, 151, 152, 153, 154, 155, 156, 157] (by decide +kernel) (by decide +kernel)
set_option maxRecDepth 20000 in
theorem gX10_elements_X10_sortOf : GoodIn wsX10_elements (wsV RX10 234 RX10 yX10_sortOf wsX10_sortOf) := goodIn_app (goodIn_of _ (by decide +kernel)) ggX10_elements_X10_sortOf
set_option maxRecDepth 20000 in
theorem ggX10_elements_X10_plain : GoodIn wsX10_elements wsX10_plain := goodIn_r _ [66, 67, 1, 68, 69, 70, 71, 72, 3, 7, 73, 5, 74, 75, 76, 77, 12, 78, 79, 80, 81, 82, 49, 83, 14, 15, 16, 17, 18, 23, 24, 25, 26, 27, 28, 84, 85, 86, 87, 88, 89, 90, 91, 92, 93, 94, 95, 96, 97, 98, 99, 29, 30, 31, 51, 52, 53, 54, 100, 101, 102, 103, 104, 112, 113, 114, 115, 116, 117, 118, 119, 120, 121, 122, 123, 124, 125, 126, 127, 128, 129, 130, 131, 132, 133, 134, 135, 136, 137, 138, 139, 140, 141, 142, 143, 144, 145, 146, 147, 148, 149, 150, 151, 152, 153, 154, 155, 156, 157] (by decide +kernel) (by decide +kernel)
set_option maxRecDepth 20000 in
theorem gX10_elements_X10_plain : GoodIn wsX10_elements (wsV RX10 237 RX10 yX10_plain wsX10_plain) := goodIn_app (goodIn_of _ (by decide +kernel)) ggX10_elements_X10_plain
set_option maxRecDepth 20000 in
theorem ggX10_elements_X10_elements : GoodIn wsX10_elements wsX10_elements := goodIn_r _ [0, 1, 2, 3, 4, 5, 6, 7, 8, 9, 10, 11, 12, 13, 14, 15, 16, 17, 18, 19, 20, 21, 22, 23, 24, 25, 26, 27, 28, 29, 30, 31, 32, 33, 34, 35, 36, 37, 38, 39, 40, 41, 42, 43, 44, 45, 46, 47, 48, 49, 50, 51, 52, 53, 54, 55, 56, 57, 58, 59, 60, 61, 62, 63, 64, 65, 66, 67, 68, 69, 70, 71, 72, 73, 74, 75, 76, 77, 78, 79, 80, 81, 82, 83, 84, 85, 86, 87, 88, 89, 90, 91, 92, 93, 94, 95, 96, 97, 98, 99, 100, 101, 102, 103, 104, 105, 106, 107, 108, 109, 110, 111, 112, 113, 114, 115, 116, 117, 118, 119, 120, 121, 122, 123, 124, 125, 126, 127, 128, 129, 130, 131, 132, 133, 134, 135, 136, 137, 138, 139, 140, 141, 142, 143, 144, 145, 146, 147, 148, 149, 150, 151, 152, 153, 154, 155, 156, 157] (by decide +kernel) (by decide +kernel)
set_option maxRecDepth 20000 in
theorem gX10_elements_X10_elements : GoodIn wsX10_elements (wsV RX10 246 RX10 yX10_elements wsX10_elements) := goodIn_app (goodIn_of _ (by decide +kernel)) ggX10_elements_X10_elements
set_option maxRecDepth 20000 in
theorem ggX10_elements_X10_has : GoodIn wsX10_elements wsX10_has := goodIn_r _ [111, 5, 23, 24, 25, 12, 26, 27, 28, 112, 113, 114, 115, 116, 117, 118, 119, 120, 121, 122, 123, 124, 125, 126, 127, 128, 129, 130, 131, 132, 133, 134, 135, 136, 137, 138, 139, 140, 141, 142, 143, 144, 145, 146, 147, 148, 149, 150, 151, 152, 153, 154, 155, 156, 157] (by decide +kernel) (by decide +kernel)
set_option maxRecDepth 20000 in
theorem gX10_elements_X10_has : GoodIn wsX10_elements (wsV RX10 253 RX10 yX10_has wsX10_has) := goodIn_app (goodIn_of _ (by decide +kernel)) ggX10_elements_X10_has
theorem dX10_elements_0 : decode cX10_elements 0 = .ok (.iconst 0, 1) := by decide +kernel
theorem dX10_elements_1 : decode cX10_elements 1 = .ok (.istore 6, 2) := by decide +kernel
theorem dX10_elements_3 : decode cX10_elements 3 = .ok (.iload_n 2, 1) := by decide +kernel
theorem dX10_elements_4 : decode cX10_elements 4 = .ok (.istore 7, 2) := by decide +kernel
theorem dX10_elements_6 : decode cX10_elements 6 = .ok (.iload 7, 2) := by decide +kernel
theorem dX10_elements_8 : decode cX10_elements 8 = .ok (.iload_n 3, 1) := by decide +kernel
theorem dX10_elements_9 : decode cX10_elements 9 = .ok (.if_icmp .ge 223, 3) := by decide +kernel
theorem dX10_elements_12 : decode cX10_elements 12 = .ok (.iload 5, 2) := by decide +kernel
theorem dX10_elements_14 : decode cX10_elements 14 = .ok (.ifCond .eq 16, 3) := by decide +kernel
theorem dX10_elements_17 : decode cX10_elements 17 = .ok (.aload_n 0, 1) := by decide +kernel
theorem dX10_elements_18 : decode cX10_elements 18 = .ok (.iload 7, 2) := by decide +kernel
theorem dX10_elements_20 : decode cX10_elements 20 = .ok (.iload_n 3, 1) := by decide +kernel
theorem dX10_elements_21 : decode cX10_elements 21 = .ok (.invokevirtual 220, 3) := by decide +kernel
theorem dX10_elements_24 : decode cX10_elements 24 = .ok (.ifCond .eq 6, 3) := by decide +kernel
theorem dX10_elements_27 : decode cX10_elements 27 = .ok (.goto 205, 3) := by decide +kernel
theorem dX10_elements_30 : decode cX10_elements 30 = .ok (.aload_n 0, 1) := by decide +kernel
theorem dX10_elements_31 : decode cX10_elements 31 = .ok (.iload 7, 2) := by decide +kernel
theorem dX10_elements_33 : decode cX10_elements 33 = .ok (.iload_n 3, 1) := by decide +kernel
theorem dX10_elements_34 : decode cX10_elements 34 = .ok (.iload 4, 2) := by decide +kernel
theorem dX10_elements_36 : decode cX10_elements 36 = .ok (.iload 6, 2) := by decide +kernel
theorem dX10_elements_38 : decode cX10_elements 38 = .ok (.invokevirtual 223, 3) := by decide +kernel
theorem dX10_elements_41 : decode cX10_elements 41 = .ok (.ifCond .eq 15, 3) := by decide +kernel
theorem dX10_elements_44 : decode cX10_elements 44 = .ok (.aload_n 0, 1) := by decide +kernel
theorem dX10_elements_45 : decode cX10_elements 45 = .ok (.iload 7, 2) := by decide +kernel
theorem dX10_elements_47 : decode cX10_elements 47 = .ok (.iload_n 3, 1) := by decide +kernel
theorem dX10_elements_48 : decode cX10_elements 48 = .ok (.iload 4, 2) := by decide +kernel
theorem dX10_elements_50 : decode cX10_elements 50 = .ok (.invokevirtual 227, 3) := by decide +kernel
theorem dX10_elements_53 : decode cX10_elements 53 = .ok (.ifCond .ne 5, 3) := by decide +kernel
theorem dX10_elements_56 : decode cX10_elements 56 = .ok (.iconst 0, 1) := by decide +kernel
theorem dX10_elements_57 : decode cX10_elements 57 = .ok (.ireturn, 1) := by decide +kernel
theorem dX10_elements_58 : decode cX10_elements 58 = .ok (.aload_n 0, 1) := by decide +kernel
theorem dX10_elements_59 : decode cX10_elements 59 = .ok (.iload 4, 2) := by decide +kernel
theorem dX10_elements_61 : decode cX10_elements 61 = .ok (.invokevirtual 231, 3) := by decide +kernel
theorem dX10_elements_64 : decode cX10_elements 64 = .ok (.istore 8, 2) := by decide +kernel
theorem dX10_elements_66 : decode cX10_elements 66 = .ok (.iload 8, 2) := by decide +kernel
theorem dX10_elements_68 : decode cX10_elements 68 = .ok (.ifCond .eq 19, 3) := by decide +kernel
theorem dX10_elements_71 : decode cX10_elements 71 = .ok (.iload 6, 2) := by decide +kernel
theorem dX10_elements_73 : decode cX10_elements 73 = .ok (.iload 8, 2) := by decide +kernel
theorem dX10_elements_75 : decode cX10_elements 75 = .ok (.iand, 1) := by decide +kernel
theorem dX10_elements_76 : decode cX10_elements 76 = .ok (.ifCond .eq 11, 3) := by decide +kernel
theorem dX10_elements_79 : decode cX10_elements 79 = .ok (.aload_n 0, 1) := by decide +kernel
theorem dX10_elements_80 : decode cX10_elements 80 = .ok (.iconst 4, 1) := by decide +kernel
theorem dX10_elements_81 : decode cX10_elements 81 = .ok (.iload 7, 2) := by decide +kernel
theorem dX10_elements_83 : decode cX10_elements 83 = .ok (.invokevirtual 151, 3) := by decide +kernel
theorem dX10_elements_86 : decode cX10_elements 86 = .ok (.ireturn, 1) := by decide +kernel
theorem dX10_elements_87 : decode cX10_elements 87 = .ok (.iload 6, 2) := by decide +kernel
theorem dX10_elements_89 : decode cX10_elements 89 = .ok (.iload 8, 2) := by decide +kernel
theorem dX10_elements_91 : decode cX10_elements 91 = .ok (.ior, 1) := by decide +kernel
theorem dX10_elements_92 : decode cX10_elements 92 = .ok (.istore 6, 2) := by decide +kernel
theorem dX10_elements_94 : decode cX10_elements 94 = .ok (.aload_n 0, 1) := by decide +kernel
theorem dX10_elements_95 : decode cX10_elements 95 = .ok (.getfield 191, 3) := by decide +kernel
theorem dX10_elements_98 : decode cX10_elements 98 = .ok (.ldc 207, 2) := by decide +kernel
theorem dX10_elements_100 : decode cX10_elements 100 = .ok (.if_icmp .ne 9, 3) := by decide +kernel
theorem dX10_elements_103 : decode cX10_elements 103 = .ok (.iload 6, 2) := by decide +kernel
theorem dX10_elements_105 : decode cX10_elements 105 = .ok (.iconst 4, 1) := by decide +kernel
theorem dX10_elements_106 : decode cX10_elements 106 = .ok (.ior, 1) := by decide +kernel
theorem dX10_elements_107 : decode cX10_elements 107 = .ok (.istore 6, 2) := by decide +kernel
theorem dX10_elements_109 : decode cX10_elements 109 = .ok (.aload_n 0, 1) := by decide +kernel
theorem dX10_elements_110 : decode cX10_elements 110 = .ok (.getfield 210, 3) := by decide +kernel
theorem dX10_elements_113 : decode cX10_elements 113 = .ok (.istore 9, 2) := by decide +kernel
theorem dX10_elements_115 : decode cX10_elements 115 = .ok (.aload_n 0, 1) := by decide +kernel
theorem dX10_elements_116 : decode cX10_elements 116 = .ok (.getfield 191, 3) := by decide +kernel
theorem dX10_elements_119 : decode cX10_elements 119 = .ok (.sipush 236, 3) := by decide +kernel
theorem dX10_elements_122 : decode cX10_elements 122 = .ok (.if_icmp .eq 103, 3) := by decide +kernel
theorem dX10_elements_125 : decode cX10_elements 125 = .ok (.aload_n 0, 1) := by decide +kernel
theorem dX10_elements_126 : decode cX10_elements 126 = .ok (.invokevirtual 234, 3) := by decide +kernel
theorem dX10_elements_129 : decode cX10_elements 129 = .ok (.istore 10, 2) := by decide +kernel
theorem dX10_elements_131 : decode cX10_elements 131 = .ok (.iload 10, 2) := by decide +kernel
theorem dX10_elements_133 : decode cX10_elements 133 = .ok (.iconst (-1), 1) := by decide +kernel
theorem dX10_elements_134 : decode cX10_elements 134 = .ok (.if_icmp .ne 14, 3) := by decide +kernel
theorem dX10_elements_137 : decode cX10_elements 137 = .ok (.aload_n 0, 1) := by decide +kernel
theorem dX10_elements_138 : decode cX10_elements 138 = .ok (.iload 7, 2) := by decide +kernel
theorem dX10_elements_140 : decode cX10_elements 140 = .ok (.invokevirtual 237, 3) := by decide +kernel
theorem dX10_elements_143 : decode cX10_elements 143 = .ok (.ifCond .ne 82, 3) := by decide +kernel
theorem dX10_elements_146 : decode cX10_elements 146 = .ok (.iconst 0, 1) := by decide +kernel
theorem dX10_elements_147 : decode cX10_elements 147 = .ok (.ireturn, 1) := by decide +kernel
theorem dX10_elements_148 : decode cX10_elements 148 = .ok (.iload 10, 2) := by decide +kernel
theorem dX10_elements_150 : decode cX10_elements 150 = .ok (.bipush 6, 2) := by decide +kernel
theorem dX10_elements_152 : decode cX10_elements 152 = .ok (.if_icmp .ne 14, 3) := by decide +kernel
theorem dX10_elements_155 : decode cX10_elements 155 = .ok (.aload_n 0, 1) := by decide +kernel
theorem dX10_elements_156 : decode cX10_elements 156 = .ok (.getfield 203, 3) := by decide +kernel
theorem dX10_elements_159 : decode cX10_elements 159 = .ok (.ifCond .eq 7, 3) := by decide +kernel
theorem dX10_elements_162 : decode cX10_elements 162 = .ok (.iconst 1, 1) := by decide +kernel
theorem dX10_elements_163 : decode cX10_elements 163 = .ok (.goto 4, 3) := by decide +kernel
theorem dX10_elements_166 : decode cX10_elements 166 = .ok (.iconst 0, 1) := by decide +kernel
theorem dX10_elements_167 : decode cX10_elements 167 = .ok (.istore 11, 2) := by decide +kernel
theorem dX10_elements_169 : decode cX10_elements 169 = .ok (.iload 10, 2) := by decide +kernel
theorem dX10_elements_171 : decode cX10_elements 171 = .ok (.bipush 6, 2) := by decide +kernel
theorem dX10_elements_173 : decode cX10_elements 173 = .ok (.if_icmp .ne 18, 3) := by decide +kernel
theorem dX10_elements_176 : decode cX10_elements 176 = .ok (.aload_n 0, 1) := by decide +kernel
theorem dX10_elements_177 : decode cX10_elements 177 = .ok (.iconst 0, 1) := by decide +kernel
theorem dX10_elements_178 : decode cX10_elements 178 = .ok (.putfield 240, 3) := by decide +kernel
theorem dX10_elements_181 : decode cX10_elements 181 = .ok (.aload_n 0, 1) := by decide +kernel
theorem dX10_elements_182 : decode cX10_elements 182 = .ok (.dup, 1) := by decide +kernel
theorem dX10_elements_183 : decode cX10_elements 183 = .ok (.getfield 243, 3) := by decide +kernel
theorem dX10_elements_186 : decode cX10_elements 186 = .ok (.iconst 1, 1) := by decide +kernel
theorem dX10_elements_187 : decode cX10_elements 187 = .ok (.iadd, 1) := by decide +kernel
theorem dX10_elements_188 : decode cX10_elements 188 = .ok (.putfield 243, 3) := by decide +kernel
theorem dX10_elements_191 : decode cX10_elements 191 = .ok (.aload_n 0, 1) := by decide +kernel
theorem dX10_elements_192 : decode cX10_elements 192 = .ok (.iload 7, 2) := by decide +kernel
theorem dX10_elements_194 : decode cX10_elements 194 = .ok (.aload_n 0, 1) := by decide +kernel
theorem dX10_elements_195 : decode cX10_elements 195 = .ok (.getfield 194, 3) := by decide +kernel
theorem dX10_elements_198 : decode cX10_elements 198 = .ok (.aload_n 0, 1) := by decide +kernel
theorem dX10_elements_199 : decode cX10_elements 199 = .ok (.getfield 210, 3) := by decide +kernel
theorem dX10_elements_202 : decode cX10_elements 202 = .ok (.iload 10, 2) := by decide +kernel
theorem dX10_elements_204 : decode cX10_elements 204 = .ok (.iload 11, 2) := by decide +kernel
theorem dX10_elements_206 : decode cX10_elements 206 = .ok (.invokevirtual 246, 3) := by decide +kernel
theorem dX10_elements_209 : decode cX10_elements 209 = .ok (.ifCond .ne 5, 3) := by decide +kernel
theorem dX10_elements_212 : decode cX10_elements 212 = .ok (.iconst 0, 1) := by decide +kernel
theorem dX10_elements_213 : decode cX10_elements 213 = .ok (.ireturn, 1) := by decide +kernel
theorem dX10_elements_214 : decode cX10_elements 214 = .ok (.iload 11, 2) := by decide +kernel
theorem dX10_elements_216 : decode cX10_elements 216 = .ok (.ifCond .eq 9, 3) := by decide +kernel
theorem dX10_elements_219 : decode cX10_elements 219 = .ok (.aload_n 0, 1) := by decide +kernel
theorem dX10_elements_220 : decode cX10_elements 220 = .ok (.getfield 250, 3) := by decide +kernel
theorem dX10_elements_223 : decode cX10_elements 223 = .ok (.istore 9, 2) := by decide +kernel
theorem dX10_elements_225 : decode cX10_elements 225 = .ok (.iload 9, 2) := by decide +kernel
theorem dX10_elements_227 : decode cX10_elements 227 = .ok (.istore 7, 2) := by decide +kernel
theorem dX10_elements_229 : decode cX10_elements 229 = .ok (.goto (-223), 3) := by decide +kernel
theorem dX10_elements_232 : decode cX10_elements 232 = .ok (.aload_n 0, 1) := by decide +kernel
theorem dX10_elements_233 : decode cX10_elements 233 = .ok (.iload 7, 2) := by decide +kernel
theorem dX10_elements_235 : decode cX10_elements 235 = .ok (.putfield 250, 3) := by decide +kernel
theorem dX10_elements_238 : decode cX10_elements 238 = .ok (.aload_n 0, 1) := by decide +kernel
theorem dX10_elements_239 : decode cX10_elements 239 = .ok (.iload_n 1, 1) := by decide +kernel
theorem dX10_elements_240 : decode cX10_elements 240 = .ok (.iload 4, 2) := by decide +kernel
theorem dX10_elements_242 : decode cX10_elements 242 = .ok (.iload 6, 2) := by decide +kernel
theorem dX10_elements_244 : decode cX10_elements 244 = .ok (.invokevirtual 253, 3) := by decide +kernel
theorem dX10_elements_247 : decode cX10_elements 247 = .ok (.ireturn, 1) := by decide +kernel
set_option maxRecDepth 20000 in
theorem ggX10_isCluster_X10_at : GoodIn wsX10_isCluster wsX10_at := goodIn_r _ [5, 6, 7, 8, 9, 10, 11, 12, 13, 14, 15, 16, 17, 18, 19, 20, 21, 22, 23, 24, 25, 26, 27, 28, 29, 30, 31, 32, 33, 34, 35, 36, 37, 38, 39, 40, 41, 42, 43, 44, 45, 46, 47, 48, 49, 50, 51, 52] (by decide +kernel) (by decide +kernel)
set_option maxRecDepth 20000 in
theorem gX10_isCluster_X10_at : GoodIn wsX10_isCluster (wsV RX10 125 RX10 yX10_at wsX10_at) := goodIn_app (goodIn_of _ (by decide +kernel)) ggX10_isCluster_X10_at
theorem dX10_isCluster_0 : decode cX10_isCluster 0 = .ok (.iload_n 1, 1) := by decide +kernel
theorem dX10_isCluster_1 : decode cX10_isCluster 1 = .ok (.iconst 4, 1) := by decide +kernel
theorem dX10_isCluster_2 : decode cX10_isCluster 2 = .ok (.iadd, 1) := by decide +kernel
theorem dX10_isCluster_3 : decode cX10_isCluster 3 = .ok (.iload_n 2, 1) := by decide +kernel
theorem dX10_isCluster_4 : decode cX10_isCluster 4 = .ok (.if_icmp .gt 54, 3) := by decide +kernel
theorem dX10_isCluster_7 : decode cX10_isCluster 7 = .ok (.aload_n 0, 1) := by decide +kernel
theorem dX10_isCluster_8 : decode cX10_isCluster 8 = .ok (.iload_n 1, 1) := by decide +kernel
theorem dX10_isCluster_9 : decode cX10_isCluster 9 = .ok (.invokevirtual 125, 3) := by decide +kernel
theorem dX10_isCluster_12 : decode cX10_isCluster 12 = .ok (.bipush 31, 2) := by decide +kernel
theorem dX10_isCluster_14 : decode cX10_isCluster 14 = .ok (.if_icmp .ne 44, 3) := by decide +kernel
theorem dX10_isCluster_17 : decode cX10_isCluster 17 = .ok (.aload_n 0, 1) := by decide +kernel
theorem dX10_isCluster_18 : decode cX10_isCluster 18 = .ok (.iload_n 1, 1) := by decide +kernel
theorem dX10_isCluster_19 : decode cX10_isCluster 19 = .ok (.iconst 1, 1) := by decide +kernel
theorem dX10_isCluster_20 : decode cX10_isCluster 20 = .ok (.iadd, 1) := by decide +kernel
theorem dX10_isCluster_21 : decode cX10_isCluster 21 = .ok (.invokevirtual 125, 3) := by decide +kernel
theorem dX10_isCluster_24 : decode cX10_isCluster 24 = .ok (.bipush 67, 2) := by decide +kernel
theorem dX10_isCluster_26 : decode cX10_isCluster 26 = .ok (.if_icmp .ne 32, 3) := by decide +kernel
theorem dX10_isCluster_29 : decode cX10_isCluster 29 = .ok (.aload_n 0, 1) := by decide +kernel
theorem dX10_isCluster_30 : decode cX10_isCluster 30 = .ok (.iload_n 1, 1) := by decide +kernel
theorem dX10_isCluster_31 : decode cX10_isCluster 31 = .ok (.iconst 2, 1) := by decide +kernel
theorem dX10_isCluster_32 : decode cX10_isCluster 32 = .ok (.iadd, 1) := by decide +kernel
theorem dX10_isCluster_33 : decode cX10_isCluster 33 = .ok (.invokevirtual 125, 3) := by decide +kernel
theorem dX10_isCluster_36 : decode cX10_isCluster 36 = .ok (.sipush 182, 3) := by decide +kernel
theorem dX10_isCluster_39 : decode cX10_isCluster 39 = .ok (.if_icmp .ne 19, 3) := by decide +kernel
theorem dX10_isCluster_42 : decode cX10_isCluster 42 = .ok (.aload_n 0, 1) := by decide +kernel
theorem dX10_isCluster_43 : decode cX10_isCluster 43 = .ok (.iload_n 1, 1) := by decide +kernel
theorem dX10_isCluster_44 : decode cX10_isCluster 44 = .ok (.iconst 3, 1) := by decide +kernel
theorem dX10_isCluster_45 : decode cX10_isCluster 45 = .ok (.iadd, 1) := by decide +kernel
theorem dX10_isCluster_46 : decode cX10_isCluster 46 = .ok (.invokevirtual 125, 3) := by decide +kernel
theorem dX10_isCluster_49 : decode cX10_isCluster 49 = .ok (.bipush 117, 2) := by decide +kernel
theorem dX10_isCluster_51 : decode cX10_isCluster 51 = .ok (.if_icmp .ne 7, 3) := by decide +kernel
theorem dX10_isCluster_54 : decode cX10_isCluster 54 = .ok (.iconst 1, 1) := by decide +kernel
theorem dX10_isCluster_55 : decode cX10_isCluster 55 = .ok (.goto 4, 3) := by decide +kernel
theorem dX10_isCluster_58 : decode cX10_isCluster 58 = .ok (.iconst 0, 1) := by decide +kernel
theorem dX10_isCluster_59 : decode cX10_isCluster 59 = .ok (.ireturn, 1) := by decide +kernel
theorem dX10_sortOf_0 : decode cX10_sortOf 0 = .ok (.aload_n 0, 1) := by decide +kernel
theorem dX10_sortOf_1 : decode cX10_sortOf 1 = .ok (.getfield 191, 3) := by decide +kernel
theorem dX10_sortOf_4 : decode cX10_sortOf 4 = .ok (.lookupswitch 84 #[(160, 81), (174, 76), (357149030, 72), (374648427, 74), (408125543, 70), (440786851, 68), (524531317, 78)], 68) := by decide +kernel
theorem dX10_sortOf_72 : decode cX10_sortOf 72 = .ok (.iconst 1, 1) := by decide +kernel
theorem dX10_sortOf_73 : decode cX10_sortOf 73 = .ok (.ireturn, 1) := by decide +kernel
theorem dX10_sortOf_74 : decode cX10_sortOf 74 = .ok (.iconst 2, 1) := by decide +kernel
theorem dX10_sortOf_75 : decode cX10_sortOf 75 = .ok (.ireturn, 1) := by decide +kernel
theorem dX10_sortOf_76 : decode cX10_sortOf 76 = .ok (.iconst 3, 1) := by decide +kernel
theorem dX10_sortOf_77 : decode cX10_sortOf 77 = .ok (.ireturn, 1) := by decide +kernel
theorem dX10_sortOf_78 : decode cX10_sortOf 78 = .ok (.iconst 4, 1) := by decide +kernel
theorem dX10_sortOf_79 : decode cX10_sortOf 79 = .ok (.ireturn, 1) := by decide +kernel
theorem dX10_sortOf_80 : decode cX10_sortOf 80 = .ok (.iconst 5, 1) := by decide +kernel
theorem dX10_sortOf_81 : decode cX10_sortOf 81 = .ok (.ireturn, 1) := by decide +kernel
theorem dX10_sortOf_82 : decode cX10_sortOf 82 = .ok (.bipush 6, 2) := by decide +kernel
theorem dX10_sortOf_84 : decode cX10_sortOf 84 = .ok (.ireturn, 1) := by decide +kernel
theorem dX10_sortOf_85 : decode cX10_sortOf 85 = .ok (.bipush 7, 2) := by decide +kernel
theorem dX10_sortOf_87 : decode cX10_sortOf 87 = .ok (.ireturn, 1) := by decide +kernel
theorem dX10_sortOf_88 : decode cX10_sortOf 88 = .ok (.iconst (-1), 1) := by decide +kernel
theorem dX10_sortOf_89 : decode cX10_sortOf 89 = .ok (.ireturn, 1) := by decide +kernel
set_option maxRecDepth 20000 in
theorem ggX10_has_X10_fails : GoodIn wsX10_has wsX10_fails := goodIn_r _ [6, 7, 8, 9, 10, 11, 12, 13, 14, 15, 16, 17, 18, 19, 20, 21, 22, 23, 24, 25, 26, 27, 28, 29, 30, 31, 32, 33, 34, 35, 36, 37, 38, 39, 40, 41, 42, 43, 44, 45, 46, 47, 48, 49, 50, 51, 52, 53, 54] (by decide +kernel) (by decide +kernel)
set_option maxRecDepth 20000 in
theorem gX10_has_X10_fails : GoodIn wsX10_has (wsV RX10 151 RX10 yX10_fails wsX10_fails) := goodIn_app (goodIn_of _ (by decide +kernel)) ggX10_has_X10_fails
theorem dX10_has_0 : decode cX10_has 0 = .ok (.iload_n 2, 1) := by decide +kernel
theorem dX10_has_1 : decode cX10_has 1 = .ok (.tableswitch 141 0 7 #[47, 64, 81, 141, 97, 113, 132, 97], 47) := by decide +kernel
theorem dX10_has_48 : decode cX10_has 48 = .ok (.iload_n 3, 1) := by decide +kernel
theorem dX10_has_49 : decode cX10_has 49 = .ok (.iconst 3, 1) := by decide +kernel
theorem dX10_has_50 : decode cX10_has 50 = .ok (.iand, 1) := by decide +kernel
theorem dX10_has_51 : decode cX10_has 51 = .ok (.iconst 3, 1) := by decide +kernel
theorem dX10_has_52 : decode cX10_has 52 = .ok (.if_icmp .ne 7, 3) := by decide +kernel
theorem dX10_has_55 : decode cX10_has 55 = .ok (.iconst 1, 1) := by decide +kernel
theorem dX10_has_56 : decode cX10_has 56 = .ok (.goto 4, 3) := by decide +kernel
theorem dX10_has_59 : decode cX10_has 59 = .ok (.iconst 0, 1) := by decide +kernel
theorem dX10_has_60 : decode cX10_has 60 = .ok (.istore 4, 2) := by decide +kernel
theorem dX10_has_62 : decode cX10_has 62 = .ok (.goto 83, 3) := by decide +kernel
theorem dX10_has_65 : decode cX10_has 65 = .ok (.iload_n 3, 1) := by decide +kernel
theorem dX10_has_66 : decode cX10_has 66 = .ok (.bipush 16, 2) := by decide +kernel
theorem dX10_has_68 : decode cX10_has 68 = .ok (.iand, 1) := by decide +kernel
theorem dX10_has_69 : decode cX10_has 69 = .ok (.ifCond .eq 7, 3) := by decide +kernel
theorem dX10_has_72 : decode cX10_has 72 = .ok (.iconst 1, 1) := by decide +kernel
theorem dX10_has_73 : decode cX10_has 73 = .ok (.goto 4, 3) := by decide +kernel
theorem dX10_has_76 : decode cX10_has 76 = .ok (.iconst 0, 1) := by decide +kernel
theorem dX10_has_77 : decode cX10_has 77 = .ok (.istore 4, 2) := by decide +kernel
theorem dX10_has_79 : decode cX10_has 79 = .ok (.goto 66, 3) := by decide +kernel
theorem dX10_has_82 : decode cX10_has 82 = .ok (.iload_n 3, 1) := by decide +kernel
theorem dX10_has_83 : decode cX10_has 83 = .ok (.iconst 2, 1) := by decide +kernel
theorem dX10_has_84 : decode cX10_has 84 = .ok (.iand, 1) := by decide +kernel
theorem dX10_has_85 : decode cX10_has 85 = .ok (.ifCond .eq 7, 3) := by decide +kernel
theorem dX10_has_88 : decode cX10_has 88 = .ok (.iconst 1, 1) := by decide +kernel
theorem dX10_has_89 : decode cX10_has 89 = .ok (.goto 4, 3) := by decide +kernel
theorem dX10_has_92 : decode cX10_has 92 = .ok (.iconst 0, 1) := by decide +kernel
theorem dX10_has_93 : decode cX10_has 93 = .ok (.istore 4, 2) := by decide +kernel
theorem dX10_has_95 : decode cX10_has 95 = .ok (.goto 50, 3) := by decide +kernel
theorem dX10_has_98 : decode cX10_has 98 = .ok (.iload_n 3, 1) := by decide +kernel
theorem dX10_has_99 : decode cX10_has 99 = .ok (.iconst 1, 1) := by decide +kernel
theorem dX10_has_100 : decode cX10_has 100 = .ok (.iand, 1) := by decide +kernel
theorem dX10_has_101 : decode cX10_has 101 = .ok (.ifCond .eq 7, 3) := by decide +kernel
theorem dX10_has_104 : decode cX10_has 104 = .ok (.iconst 1, 1) := by decide +kernel
theorem dX10_has_105 : decode cX10_has 105 = .ok (.goto 4, 3) := by decide +kernel
theorem dX10_has_108 : decode cX10_has 108 = .ok (.iconst 0, 1) := by decide +kernel
theorem dX10_has_109 : decode cX10_has 109 = .ok (.istore 4, 2) := by decide +kernel
theorem dX10_has_111 : decode cX10_has 111 = .ok (.goto 34, 3) := by decide +kernel
theorem dX10_has_114 : decode cX10_has 114 = .ok (.iload_n 3, 1) := by decide +kernel
theorem dX10_has_115 : decode cX10_has 115 = .ok (.bipush 7, 2) := by decide +kernel
theorem dX10_has_117 : decode cX10_has 117 = .ok (.iand, 1) := by decide +kernel
theorem dX10_has_118 : decode cX10_has 118 = .ok (.bipush 7, 2) := by decide +kernel
theorem dX10_has_120 : decode cX10_has 120 = .ok (.if_icmp .ne 7, 3) := by decide +kernel
theorem dX10_has_123 : decode cX10_has 123 = .ok (.iconst 1, 1) := by decide +kernel
theorem dX10_has_124 : decode cX10_has 124 = .ok (.goto 4, 3) := by decide +kernel
theorem dX10_has_127 : decode cX10_has 127 = .ok (.iconst 0, 1) := by decide +kernel
theorem dX10_has_128 : decode cX10_has 128 = .ok (.istore 4, 2) := by decide +kernel
theorem dX10_has_130 : decode cX10_has 130 = .ok (.goto 15, 3) := by decide +kernel
theorem dX10_has_133 : decode cX10_has 133 = .ok (.aload_n 0, 1) := by decide +kernel
theorem dX10_has_134 : decode cX10_has 134 = .ok (.getfield 240, 3) := by decide +kernel
theorem dX10_has_137 : decode cX10_has 137 = .ok (.istore 4, 2) := by decide +kernel
theorem dX10_has_139 : decode cX10_has 139 = .ok (.goto 6, 3) := by decide +kernel
theorem dX10_has_142 : decode cX10_has 142 = .ok (.iconst 1, 1) := by decide +kernel
theorem dX10_has_143 : decode cX10_has 143 = .ok (.istore 4, 2) := by decide +kernel
theorem dX10_has_145 : decode cX10_has 145 = .ok (.iload 4, 2) := by decide +kernel
theorem dX10_has_147 : decode cX10_has 147 = .ok (.ifCond .ne 13, 3) := by decide +kernel
theorem dX10_has_150 : decode cX10_has 150 = .ok (.aload_n 0, 1) := by decide +kernel
theorem dX10_has_151 : decode cX10_has 151 = .ok (.bipush 7, 2) := by decide +kernel
theorem dX10_has_153 : decode cX10_has 153 = .ok (.iload_n 1, 1) := by decide +kernel
theorem dX10_has_154 : decode cX10_has 154 = .ok (.invokevirtual 151, 3) := by decide +kernel
theorem dX10_has_157 : decode cX10_has 157 = .ok (.ifCond .eq 7, 3) := by decide +kernel
theorem dX10_has_160 : decode cX10_has 160 = .ok (.iconst 1, 1) := by decide +kernel
theorem dX10_has_161 : decode cX10_has 161 = .ok (.goto 4, 3) := by decide +kernel
theorem dX10_has_164 : decode cX10_has 164 = .ok (.iconst 0, 1) := by decide +kernel
theorem dX10_has_165 : decode cX10_has 165 = .ok (.ireturn, 1) := by decide +kernel
set_option maxRecDepth 20000 in
theorem ggX10_uint_X10_at : GoodIn wsX10_uint wsX10_at := goodIn_r _ [9, 10, 11, 12, 13, 14, 15, 16, 17, 18, 19, 20, 21, 22, 23, 24, 25, 26, 27, 28, 29, 30, 31, 32, 33, 34, 35, 36, 37, 38, 39, 40, 41, 42, 43, 44, 45, 46, 47, 48, 49, 50, 51, 52, 53, 54, 55, 56] (by decide +kernel) (by decide +kernel)
set_option maxRecDepth 20000 in
theorem gX10_uint_X10_at : GoodIn wsX10_uint (wsV RX10 125 RX10 yX10_at wsX10_at) := goodIn_app (goodIn_of _ (by decide +kernel)) ggX10_uint_X10_at
theorem dX10_uint_0 : decode cX10_uint 0 = .ok (.aload_n 0, 1) := by decide +kernel
theorem dX10_uint_1 : decode cX10_uint 1 = .ok (.getfield 210, 3) := by decide +kernel
theorem dX10_uint_4 : decode cX10_uint 4 = .ok (.aload_n 0, 1) := by decide +kernel
theorem dX10_uint_5 : decode cX10_uint 5 = .ok (.getfield 194, 3) := by decide +kernel
theorem dX10_uint_8 : decode cX10_uint 8 = .ok (.isub, 1) := by decide +kernel
theorem dX10_uint_9 : decode cX10_uint 9 = .ok (.bipush 8, 2) := by decide +kernel
theorem dX10_uint_11 : decode cX10_uint 11 = .ok (.if_icmp .le 7, 3) := by decide +kernel
theorem dX10_uint_14 : decode cX10_uint 14 = .ok (.ldc2_w 65, 3) := by decide +kernel
theorem dX10_uint_17 : decode cX10_uint 17 = .ok (.lreturn, 1) := by decide +kernel
theorem dX10_uint_18 : decode cX10_uint 18 = .ok (.lconst 0, 1) := by decide +kernel
theorem dX10_uint_19 : decode cX10_uint 19 = .ok (.lstore_n 1, 1) := by decide +kernel
theorem dX10_uint_20 : decode cX10_uint 20 = .ok (.aload_n 0, 1) := by decide +kernel
theorem dX10_uint_21 : decode cX10_uint 21 = .ok (.getfield 194, 3) := by decide +kernel
theorem dX10_uint_24 : decode cX10_uint 24 = .ok (.istore_n 3, 1) := by decide +kernel
theorem dX10_uint_25 : decode cX10_uint 25 = .ok (.iload_n 3, 1) := by decide +kernel
theorem dX10_uint_26 : decode cX10_uint 26 = .ok (.aload_n 0, 1) := by decide +kernel
theorem dX10_uint_27 : decode cX10_uint 27 = .ok (.getfield 210, 3) := by decide +kernel
theorem dX10_uint_30 : decode cX10_uint 30 = .ok (.if_icmp .ge 33, 3) := by decide +kernel
theorem dX10_uint_33 : decode cX10_uint 33 = .ok (.lload_n 1, 1) := by decide +kernel
theorem dX10_uint_34 : decode cX10_uint 34 = .ok (.ldc2_w 256, 3) := by decide +kernel
theorem dX10_uint_37 : decode cX10_uint 37 = .ok (.lcmp, 1) := by decide +kernel
theorem dX10_uint_38 : decode cX10_uint 38 = .ok (.ifCond .lt 7, 3) := by decide +kernel
theorem dX10_uint_41 : decode cX10_uint 41 = .ok (.ldc2_w 65, 3) := by decide +kernel
theorem dX10_uint_44 : decode cX10_uint 44 = .ok (.lreturn, 1) := by decide +kernel
theorem dX10_uint_45 : decode cX10_uint 45 = .ok (.lload_n 1, 1) := by decide +kernel
theorem dX10_uint_46 : decode cX10_uint 46 = .ok (.bipush 8, 2) := by decide +kernel
theorem dX10_uint_48 : decode cX10_uint 48 = .ok (.lshl, 1) := by decide +kernel
theorem dX10_uint_49 : decode cX10_uint 49 = .ok (.aload_n 0, 1) := by decide +kernel
theorem dX10_uint_50 : decode cX10_uint 50 = .ok (.iload_n 3, 1) := by decide +kernel
theorem dX10_uint_51 : decode cX10_uint 51 = .ok (.invokevirtual 125, 3) := by decide +kernel
theorem dX10_uint_54 : decode cX10_uint 54 = .ok (.i2l, 1) := by decide +kernel
theorem dX10_uint_55 : decode cX10_uint 55 = .ok (.lor, 1) := by decide +kernel
theorem dX10_uint_56 : decode cX10_uint 56 = .ok (.lstore_n 1, 1) := by decide +kernel
theorem dX10_uint_57 : decode cX10_uint 57 = .ok (.iinc 3 1, 3) := by decide +kernel
theorem dX10_uint_60 : decode cX10_uint 60 = .ok (.goto (-35), 3) := by decide +kernel
theorem dX10_uint_63 : decode cX10_uint 63 = .ok (.lload_n 1, 1) := by decide +kernel
theorem dX10_uint_64 : decode cX10_uint 64 = .ok (.lreturn, 1) := by decide +kernel
set_option maxRecDepth 20000 in
theorem ggX10_isWithin_X10_uint : GoodIn wsX10_isWithin wsX10_uint := goodIn_r _ [5, 6, 7, 8, 9, 10, 11, 12, 4, 13, 14, 21, 22, 23, 24, 25, 26, 27, 28, 29, 30, 31, 32, 33, 34, 35, 36, 37, 38, 39, 40, 41, 42, 43, 44, 45, 46, 47, 48, 49, 50, 51, 52, 53, 54, 55, 56, 57, 58, 59, 60, 61, 62, 63, 64, 65, 66] (by decide +kernel) (by decide +kernel)
set_option maxRecDepth 20000 in
theorem gX10_isWithin_X10_uint : GoodIn wsX10_isWithin (wsV RX10 258 RX10 yX10_uint wsX10_uint) := goodIn_app (goodIn_of _ (by decide +kernel)) ggX10_isWithin_X10_uint
set_option maxRecDepth 20000 in
theorem ggX10_isWithin_X10_fails : GoodIn wsX10_isWithin wsX10_fails := goodIn_r _ [18, 19, 20, 21, 22, 23, 24, 25, 26, 27, 28, 29, 30, 31, 32, 33, 34, 35, 36, 37, 38, 39, 40, 41, 42, 43, 44, 45, 46, 47, 48, 49, 50, 51, 52, 53, 54, 55, 56, 57, 58, 59, 60, 61, 62, 63, 64, 65, 66] (by decide +kernel) (by decide +kernel)
set_option maxRecDepth 20000 in
theorem gX10_isWithin_X10_fails : GoodIn wsX10_isWithin (wsV RX10 151 RX10 yX10_fails wsX10_fails) := goodIn_app (goodIn_of _ (by decide +kernel)) ggX10_isWithin_X10_fails
theorem dX10_isWithin_0 : decode cX10_isWithin 0 = .ok (.aload_n 0, 1) := by decide +kernel
theorem dX10_isWithin_1 : decode cX10_isWithin 1 = .ok (.invokevirtual 258, 3) := by decide +kernel
theorem dX10_isWithin_4 : decode cX10_isWithin 4 = .ok (.lstore 6, 2) := by decide +kernel
theorem dX10_isWithin_6 : decode cX10_isWithin 6 = .ok (.lload 6, 2) := by decide +kernel
theorem dX10_isWithin_8 : decode cX10_isWithin 8 = .ok (.lload_n 2, 1) := by decide +kernel
theorem dX10_isWithin_9 : decode cX10_isWithin 9 = .ok (.lcmp, 1) := by decide +kernel
theorem dX10_isWithin_10 : decode cX10_isWithin 10 = .ok (.ifCond .lt 11, 3) := by decide +kernel
theorem dX10_isWithin_13 : decode cX10_isWithin 13 = .ok (.lload 6, 2) := by decide +kernel
theorem dX10_isWithin_15 : decode cX10_isWithin 15 = .ok (.lload 4, 2) := by decide +kernel
theorem dX10_isWithin_17 : decode cX10_isWithin 17 = .ok (.lcmp, 1) := by decide +kernel
theorem dX10_isWithin_18 : decode cX10_isWithin 18 = .ok (.ifCond .le 12, 3) := by decide +kernel
theorem dX10_isWithin_21 : decode cX10_isWithin 21 = .ok (.aload_n 0, 1) := by decide +kernel
theorem dX10_isWithin_22 : decode cX10_isWithin 22 = .ok (.iconst 5, 1) := by decide +kernel
theorem dX10_isWithin_23 : decode cX10_isWithin 23 = .ok (.iload_n 1, 1) := by decide +kernel
theorem dX10_isWithin_24 : decode cX10_isWithin 24 = .ok (.invokevirtual 151, 3) := by decide +kernel
theorem dX10_isWithin_27 : decode cX10_isWithin 27 = .ok (.ifCond .eq 7, 3) := by decide +kernel
theorem dX10_isWithin_30 : decode cX10_isWithin 30 = .ok (.iconst 1, 1) := by decide +kernel
theorem dX10_isWithin_31 : decode cX10_isWithin 31 = .ok (.goto 4, 3) := by decide +kernel
theorem dX10_isWithin_34 : decode cX10_isWithin 34 = .ok (.iconst 0, 1) := by decide +kernel
