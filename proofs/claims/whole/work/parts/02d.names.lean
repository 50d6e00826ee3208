theorem dX6_packetsEnding_33 : decode cX6_packetsEnding 33 = .ok (.iadd, 1) := by decide +kernel
theorem dX6_packetsEnding_34 : decode cX6_packetsEnding 34 = .ok (.invokevirtual 60, 3) := by decide +kernel
theorem dX6_packetsEnding_37 : decode cX6_packetsEnding 37 = .ok (.sipush 255, 3) := by decide +kernel
theorem dX6_packetsEnding_40 : decode cX6_packetsEnding 40 = .ok (.if_icmp .ge 6, 3) := by decide +kernel
theorem dX6_packetsEnding_43 : decode cX6_packetsEnding 43 = .ok (.iinc 3 1, 3) := by decide +kernel
theorem dX6_packetsEnding_46 : decode cX6_packetsEnding 46 = .ok (.iinc 4 1, 3) := by decide +kernel
theorem dX6_packetsEnding_49 : decode cX6_packetsEnding 49 = .ok (.goto (-32), 3) := by decide +kernel
theorem dX6_packetsEnding_52 : decode cX6_packetsEnding 52 = .ok (.iload_n 3, 1) := by decide +kernel
theorem dX6_packetsEnding_53 : decode cX6_packetsEnding 53 = .ok (.ireturn, 1) := by decide +kernel
theorem dX6_isTimeWrong_0 : decode cX6_isTimeWrong 0 = .ok (.iload_n 3, 1) := by decide +kernel
theorem dX6_isTimeWrong_1 : decode cX6_isTimeWrong 1 = .ok (.ifCond .ne 17, 3) := by decide +kernel
theorem dX6_isTimeWrong_4 : decode cX6_isTimeWrong 4 = .ok (.lload_n 1, 1) := by decide +kernel
theorem dX6_isTimeWrong_5 : decode cX6_isTimeWrong 5 = .ok (.ldc2_w 98, 3) := by decide +kernel
theorem dX6_isTimeWrong_8 : decode cX6_isTimeWrong 8 = .ok (.lcmp, 1) := by decide +kernel
theorem dX6_isTimeWrong_9 : decode cX6_isTimeWrong 9 = .ok (.ifCond .eq 7, 3) := by decide +kernel
theorem dX6_isTimeWrong_12 : decode cX6_isTimeWrong 12 = .ok (.iconst 1, 1) := by decide +kernel
theorem dX6_isTimeWrong_13 : decode cX6_isTimeWrong 13 = .ok (.goto 4, 3) := by decide +kernel
theorem dX6_isTimeWrong_16 : decode cX6_isTimeWrong 16 = .ok (.iconst 0, 1) := by decide +kernel
theorem dX6_isTimeWrong_17 : decode cX6_isTimeWrong 17 = .ok (.ireturn, 1) := by decide +kernel
theorem dX6_isTimeWrong_18 : decode cX6_isTimeWrong 18 = .ok (.lload_n 1, 1) := by decide +kernel
theorem dX6_isTimeWrong_19 : decode cX6_isTimeWrong 19 = .ok (.aload_n 0, 1) := by decide +kernel
theorem dX6_isTimeWrong_20 : decode cX6_isTimeWrong 20 = .ok (.getfield 33, 3) := by decide +kernel
theorem dX6_isTimeWrong_23 : decode cX6_isTimeWrong 23 = .ok (.lcmp, 1) := by decide +kernel
theorem dX6_isTimeWrong_24 : decode cX6_isTimeWrong 24 = .ok (.ifCond .lt 11, 3) := by decide +kernel
theorem dX6_isTimeWrong_27 : decode cX6_isTimeWrong 27 = .ok (.lload_n 1, 1) := by decide +kernel
theorem dX6_isTimeWrong_28 : decode cX6_isTimeWrong 28 = .ok (.ldc2_w 100, 3) := by decide +kernel
theorem dX6_isTimeWrong_31 : decode cX6_isTimeWrong 31 = .ok (.lcmp, 1) := by decide +kernel
theorem dX6_isTimeWrong_32 : decode cX6_isTimeWrong 32 = .ok (.ifCond .le 7, 3) := by decide +kernel
theorem dX6_isTimeWrong_35 : decode cX6_isTimeWrong 35 = .ok (.iconst 1, 1) := by decide +kernel
theorem dX6_isTimeWrong_36 : decode cX6_isTimeWrong 36 = .ok (.goto 4, 3) := by decide +kernel
theorem dX6_isTimeWrong_39 : decode cX6_isTimeWrong 39 = .ok (.iconst 0, 1) := by decide +kernel
theorem dX6_isTimeWrong_40 : decode cX6_isTimeWrong 40 = .ok (.ireturn, 1) := by decide +kernel
set_option maxRecDepth 20000 in
theorem ggX6_takePage_X8_at : GoodIn wsX6_takePage wsX8_at := goodIn_r _ [14, 15, 16, 69, 70, 71, 72] (by decide +kernel) (by decide +kernel)
set_option maxRecDepth 20000 in
theorem gX6_takePage_X8_at : GoodIn wsX6_takePage (wsV RX6 60 RX8 yX8_at wsX8_at) := goodIn_app (goodIn_of _ (by decide +kernel)) ggX6_takePage_X8_at
set_option maxRecDepth 20000 in
theorem ggX6_takePage_X6_packetsEnding : GoodIn wsX6_takePage wsX6_packetsEnding := goodIn_r _ [21, 1, 10, 11, 12, 13, 14, 15, 16, 55, 56, 57, 58, 59, 60, 61, 62, 63, 64, 69, 70, 71, 72] (by decide +kernel) (by decide +kernel)
set_option maxRecDepth 20000 in
theorem gX6_takePage_X6_packetsEnding : GoodIn wsX6_takePage (wsV RX6 79 RX6 yX6_packetsEnding wsX6_packetsEnding) := goodIn_app (goodIn_of _ (by decide +kernel)) ggX6_takePage_X6_packetsEnding
set_option maxRecDepth 20000 in
theorem ggX6_takePage_X8_lowFirst : GoodIn wsX6_takePage wsX8_lowFirst := goodIn_r _ [25, 26, 11, 12, 13, 14, 15, 16, 69, 70, 71, 72] (by decide +kernel) (by decide +kernel)
set_option maxRecDepth 20000 in
theorem gX6_takePage_X8_lowFirst : GoodIn wsX6_takePage (wsV RX6 82 RX8 yX8_lowFirst wsX8_lowFirst) := goodIn_app (goodIn_of _ (by decide +kernel)) ggX6_takePage_X8_lowFirst
set_option maxRecDepth 20000 in
theorem ggX6_takePage_X8_addPart : GoodIn wsX6_takePage wsX8_addPart := goodIn_r _ [30, 26, 11, 12, 13, 14, 15, 16, 31, 32, 33, 34, 35, 36, 37, 38, 39, 40, 69, 70, 71, 72] (by decide +kernel) (by decide +kernel)
set_option maxRecDepth 20000 in
theorem gX6_takePage_X8_addPart : GoodIn wsX6_takePage (wsV RX6 105 RX8 yX8_addPart wsX8_addPart) := goodIn_app (goodIn_of _ (by decide +kernel)) ggX6_takePage_X8_addPart
set_option maxRecDepth 20000 in
theorem ggX6_takePage_X4_endPacket : GoodIn wsX6_takePage wsX4_endPacket := goodIn_r _ [45, 46, 47, 48, 49, 50, 65, 66, 67, 68, 69, 70, 71, 72] (by decide +kernel) (by decide +kernel)
set_option maxRecDepth 20000 in
theorem gX6_takePage_X4_endPacket : GoodIn wsX6_takePage (wsV RX6 109 RX4 yX4_endPacket wsX4_endPacket) := goodIn_app (goodIn_of _ (by decide +kernel)) ggX6_takePage_X4_endPacket
set_option maxRecDepth 20000 in
theorem ggX6_takePage_X6_numberAt : GoodIn wsX6_takePage wsX6_numberAt := goodIn_r _ [54, 1, 22, 23, 24, 13, 25, 26, 11, 12, 14, 15, 16, 55, 56, 57, 58, 59, 60, 61, 62, 63, 64, 69, 70, 71, 72] (by decide +kernel) (by decide +kernel)
set_option maxRecDepth 20000 in
theorem gX6_takePage_X6_numberAt : GoodIn wsX6_takePage (wsV RX6 72 RX6 yX6_numberAt wsX6_numberAt) := goodIn_app (goodIn_of _ (by decide +kernel)) ggX6_takePage_X6_numberAt
theorem dX6_takePage_0 : decode cX6_takePage 0 = .ok (.aload_n 0, 1) := by decide +kernel
theorem dX6_takePage_1 : decode cX6_takePage 1 = .ok (.getfield 9, 3) := by decide +kernel
theorem dX6_takePage_4 : decode cX6_takePage 4 = .ok (.iload_n 1, 1) := by decide +kernel
theorem dX6_takePage_5 : decode cX6_takePage 5 = .ok (.bipush 26, 2) := by decide +kernel
theorem dX6_takePage_7 : decode cX6_takePage 7 = .ok (.iadd, 1) := by decide +kernel
theorem dX6_takePage_8 : decode cX6_takePage 8 = .ok (.invokevirtual 60, 3) := by decide +kernel
theorem dX6_takePage_11 : decode cX6_takePage 11 = .ok (.istore_n 2, 1) := by decide +kernel
theorem dX6_takePage_12 : decode cX6_takePage 12 = .ok (.aload_n 0, 1) := by decide +kernel
theorem dX6_takePage_13 : decode cX6_takePage 13 = .ok (.iload_n 1, 1) := by decide +kernel
theorem dX6_takePage_14 : decode cX6_takePage 14 = .ok (.invokevirtual 79, 3) := by decide +kernel
theorem dX6_takePage_17 : decode cX6_takePage 17 = .ok (.istore_n 3, 1) := by decide +kernel
theorem dX6_takePage_18 : decode cX6_takePage 18 = .ok (.aload_n 0, 1) := by decide +kernel
theorem dX6_takePage_19 : decode cX6_takePage 19 = .ok (.getfield 9, 3) := by decide +kernel
theorem dX6_takePage_22 : decode cX6_takePage 22 = .ok (.iload_n 1, 1) := by decide +kernel
theorem dX6_takePage_23 : decode cX6_takePage 23 = .ok (.bipush 6, 2) := by decide +kernel
theorem dX6_takePage_25 : decode cX6_takePage 25 = .ok (.iadd, 1) := by decide +kernel
theorem dX6_takePage_26 : decode cX6_takePage 26 = .ok (.bipush 8, 2) := by decide +kernel
theorem dX6_takePage_28 : decode cX6_takePage 28 = .ok (.invokevirtual 82, 3) := by decide +kernel
theorem dX6_takePage_31 : decode cX6_takePage 31 = .ok (.lstore 4, 2) := by decide +kernel
theorem dX6_takePage_33 : decode cX6_takePage 33 = .ok (.aload_n 0, 1) := by decide +kernel
theorem dX6_takePage_34 : decode cX6_takePage 34 = .ok (.iload_n 3, 1) := by decide +kernel
theorem dX6_takePage_35 : decode cX6_takePage 35 = .ok (.ifCond .le 8, 3) := by decide +kernel
theorem dX6_takePage_38 : decode cX6_takePage 38 = .ok (.lload 4, 2) := by decide +kernel
theorem dX6_takePage_40 : decode cX6_takePage 40 = .ok (.goto 7, 3) := by decide +kernel
theorem dX6_takePage_43 : decode cX6_takePage 43 = .ok (.aload_n 0, 1) := by decide +kernel
theorem dX6_takePage_44 : decode cX6_takePage 44 = .ok (.getfield 33, 3) := by decide +kernel
theorem dX6_takePage_47 : decode cX6_takePage 47 = .ok (.putfield 33, 3) := by decide +kernel
theorem dX6_takePage_50 : decode cX6_takePage 50 = .ok (.iload_n 1, 1) := by decide +kernel
theorem dX6_takePage_51 : decode cX6_takePage 51 = .ok (.bipush 27, 2) := by decide +kernel
theorem dX6_takePage_53 : decode cX6_takePage 53 = .ok (.iadd, 1) := by decide +kernel
theorem dX6_takePage_54 : decode cX6_takePage 54 = .ok (.iload_n 2, 1) := by decide +kernel
theorem dX6_takePage_55 : decode cX6_takePage 55 = .ok (.iadd, 1) := by decide +kernel
theorem dX6_takePage_56 : decode cX6_takePage 56 = .ok (.istore 6, 2) := by decide +kernel
theorem dX6_takePage_58 : decode cX6_takePage 58 = .ok (.iconst 0, 1) := by decide +kernel
theorem dX6_takePage_59 : decode cX6_takePage 59 = .ok (.istore 7, 2) := by decide +kernel
theorem dX6_takePage_61 : decode cX6_takePage 61 = .ok (.iload 7, 2) := by decide +kernel
theorem dX6_takePage_63 : decode cX6_takePage 63 = .ok (.iload_n 2, 1) := by decide +kernel
theorem dX6_takePage_64 : decode cX6_takePage 64 = .ok (.if_icmp .ge 96, 3) := by decide +kernel
theorem dX6_takePage_67 : decode cX6_takePage 67 = .ok (.aload_n 0, 1) := by decide +kernel
theorem dX6_takePage_68 : decode cX6_takePage 68 = .ok (.getfield 9, 3) := by decide +kernel
theorem dX6_takePage_71 : decode cX6_takePage 71 = .ok (.iload_n 1, 1) := by decide +kernel
theorem dX6_takePage_72 : decode cX6_takePage 72 = .ok (.bipush 27, 2) := by decide +kernel
theorem dX6_takePage_74 : decode cX6_takePage 74 = .ok (.iadd, 1) := by decide +kernel
theorem dX6_takePage_75 : decode cX6_takePage 75 = .ok (.iload 7, 2) := by decide +kernel
theorem dX6_takePage_77 : decode cX6_takePage 77 = .ok (.iadd, 1) := by decide +kernel
theorem dX6_takePage_78 : decode cX6_takePage 78 = .ok (.invokevirtual 60, 3) := by decide +kernel
theorem dX6_takePage_81 : decode cX6_takePage 81 = .ok (.istore 8, 2) := by decide +kernel
theorem dX6_takePage_83 : decode cX6_takePage 83 = .ok (.aload_n 0, 1) := by decide +kernel
theorem dX6_takePage_84 : decode cX6_takePage 84 = .ok (.getfield 19, 3) := by decide +kernel
theorem dX6_takePage_87 : decode cX6_takePage 87 = .ok (.getfield 102, 3) := by decide +kernel
theorem dX6_takePage_90 : decode cX6_takePage 90 = .ok (.aload_n 0, 1) := by decide +kernel
theorem dX6_takePage_91 : decode cX6_takePage 91 = .ok (.getfield 9, 3) := by decide +kernel
theorem dX6_takePage_94 : decode cX6_takePage 94 = .ok (.iload 6, 2) := by decide +kernel
theorem dX6_takePage_96 : decode cX6_takePage 96 = .ok (.iload 8, 2) := by decide +kernel
theorem dX6_takePage_98 : decode cX6_takePage 98 = .ok (.invokevirtual 105, 3) := by decide +kernel
theorem dX6_takePage_101 : decode cX6_takePage 101 = .ok (.iload 6, 2) := by decide +kernel
theorem dX6_takePage_103 : decode cX6_takePage 103 = .ok (.iload 8, 2) := by decide +kernel
theorem dX6_takePage_105 : decode cX6_takePage 105 = .ok (.iadd, 1) := by decide +kernel
theorem dX6_takePage_106 : decode cX6_takePage 106 = .ok (.istore 6, 2) := by decide +kernel
theorem dX6_takePage_108 : decode cX6_takePage 108 = .ok (.aload_n 0, 1) := by decide +kernel
theorem dX6_takePage_109 : decode cX6_takePage 109 = .ok (.iload 8, 2) := by decide +kernel
theorem dX6_takePage_111 : decode cX6_takePage 111 = .ok (.sipush 255, 3) := by decide +kernel
theorem dX6_takePage_114 : decode cX6_takePage 114 = .ok (.if_icmp .ne 7, 3) := by decide +kernel
theorem dX6_takePage_117 : decode cX6_takePage 117 = .ok (.iconst 1, 1) := by decide +kernel
theorem dX6_takePage_118 : decode cX6_takePage 118 = .ok (.goto 4, 3) := by decide +kernel
theorem dX6_takePage_121 : decode cX6_takePage 121 = .ok (.iconst 0, 1) := by decide +kernel
theorem dX6_takePage_122 : decode cX6_takePage 122 = .ok (.putfield 26, 3) := by decide +kernel
theorem dX6_takePage_125 : decode cX6_takePage 125 = .ok (.aload_n 0, 1) := by decide +kernel
theorem dX6_takePage_126 : decode cX6_takePage 126 = .ok (.getfield 26, 3) := by decide +kernel
theorem dX6_takePage_129 : decode cX6_takePage 129 = .ok (.ifCond .ne 25, 3) := by decide +kernel
theorem dX6_takePage_132 : decode cX6_takePage 132 = .ok (.iinc 3 (-1), 3) := by decide +kernel
theorem dX6_takePage_135 : decode cX6_takePage 135 = .ok (.aload_n 0, 1) := by decide +kernel
theorem dX6_takePage_136 : decode cX6_takePage 136 = .ok (.getfield 19, 3) := by decide +kernel
theorem dX6_takePage_139 : decode cX6_takePage 139 = .ok (.iload_n 3, 1) := by decide +kernel
theorem dX6_takePage_140 : decode cX6_takePage 140 = .ok (.ifCond .ne 8, 3) := by decide +kernel
theorem dX6_takePage_143 : decode cX6_takePage 143 = .ok (.lload 4, 2) := by decide +kernel
theorem dX6_takePage_145 : decode cX6_takePage 145 = .ok (.goto 6, 3) := by decide +kernel
theorem dX6_takePage_148 : decode cX6_takePage 148 = .ok (.ldc2_w 98, 3) := by decide +kernel
theorem dX6_takePage_151 : decode cX6_takePage 151 = .ok (.invokevirtual 109, 3) := by decide +kernel
theorem dX6_takePage_154 : decode cX6_takePage 154 = .ok (.iinc 7 1, 3) := by decide +kernel
theorem dX6_takePage_157 : decode cX6_takePage 157 = .ok (.goto (-96), 3) := by decide +kernel
theorem dX6_takePage_160 : decode cX6_takePage 160 = .ok (.aload_n 0, 1) := by decide +kernel
theorem dX6_takePage_161 : decode cX6_takePage 161 = .ok (.aload_n 0, 1) := by decide +kernel
theorem dX6_takePage_162 : decode cX6_takePage 162 = .ok (.getfield 9, 3) := by decide +kernel
theorem dX6_takePage_165 : decode cX6_takePage 165 = .ok (.iload_n 1, 1) := by decide +kernel
theorem dX6_takePage_166 : decode cX6_takePage 166 = .ok (.iconst 5, 1) := by decide +kernel
theorem dX6_takePage_167 : decode cX6_takePage 167 = .ok (.iadd, 1) := by decide +kernel
theorem dX6_takePage_168 : decode cX6_takePage 168 = .ok (.invokevirtual 60, 3) := by decide +kernel
theorem dX6_takePage_171 : decode cX6_takePage 171 = .ok (.iconst 4, 1) := by decide +kernel
theorem dX6_takePage_172 : decode cX6_takePage 172 = .ok (.iand, 1) := by decide +kernel
theorem dX6_takePage_173 : decode cX6_takePage 173 = .ok (.ifCond .eq 7, 3) := by decide +kernel
theorem dX6_takePage_176 : decode cX6_takePage 176 = .ok (.iconst 1, 1) := by decide +kernel
theorem dX6_takePage_177 : decode cX6_takePage 177 = .ok (.goto 4, 3) := by decide +kernel
theorem dX6_takePage_180 : decode cX6_takePage 180 = .ok (.iconst 0, 1) := by decide +kernel
theorem dX6_takePage_181 : decode cX6_takePage 181 = .ok (.putfield 30, 3) := by decide +kernel
theorem dX6_takePage_184 : decode cX6_takePage 184 = .ok (.aload_n 0, 1) := by decide +kernel
theorem dX6_takePage_185 : decode cX6_takePage 185 = .ok (.aload_n 0, 1) := by decide +kernel
theorem dX6_takePage_186 : decode cX6_takePage 186 = .ok (.iload_n 1, 1) := by decide +kernel
theorem dX6_takePage_187 : decode cX6_takePage 187 = .ok (.bipush 14, 2) := by decide +kernel
theorem dX6_takePage_189 : decode cX6_takePage 189 = .ok (.iadd, 1) := by decide +kernel
theorem dX6_takePage_190 : decode cX6_takePage 190 = .ok (.invokevirtual 72, 3) := by decide +kernel
theorem dX6_takePage_193 : decode cX6_takePage 193 = .ok (.putfield 95, 3) := by decide +kernel
theorem dX6_takePage_196 : decode cX6_takePage 196 = .ok (.aload_n 0, 1) := by decide +kernel
theorem dX6_takePage_197 : decode cX6_takePage 197 = .ok (.dup, 1) := by decide +kernel
theorem dX6_takePage_198 : decode cX6_takePage 198 = .ok (.getfield 23, 3) := by decide +kernel
theorem dX6_takePage_201 : decode cX6_takePage 201 = .ok (.iconst 1, 1) := by decide +kernel
theorem dX6_takePage_202 : decode cX6_takePage 202 = .ok (.iadd, 1) := by decide +kernel
theorem dX6_takePage_203 : decode cX6_takePage 203 = .ok (.putfield 23, 3) := by decide +kernel
theorem dX6_takePage_206 : decode cX6_takePage 206 = .ok (.iload 6, 2) := by decide +kernel
theorem dX6_takePage_208 : decode cX6_takePage 208 = .ok (.ireturn, 1) := by decide +kernel
theorem dX7_init_0 : decode cX7_init 0 = .ok (.aload_n 0, 1) := by decide +kernel
theorem dX7_init_1 : decode cX7_init 1 = .ok (.invokespecial 3, 3) := by decide +kernel
theorem dX7_init_4 : decode cX7_init 4 = .ok (.aload_n 0, 1) := by decide +kernel
theorem dX7_init_5 : decode cX7_init 5 = .ok (.sipush 255, 3) := by decide +kernel
theorem dX7_init_8 : decode cX7_init 8 = .ok (.newarray .int, 2) := by decide +kernel
theorem dX7_init_10 : decode cX7_init 10 = .ok (.putfield 11, 3) := by decide +kernel
theorem dX7_init_13 : decode cX7_init 13 = .ok (.return_, 1) := by decide +kernel
set_option maxRecDepth 20000 in
theorem ggX7_write_X7_beginPage : GoodIn wsX7_write wsX7_beginPage := goodIn_r _ [15, 8, 9, 10, 98, 99, 100, 101, 102, 103, 104, 105, 106, 107] (by decide +kernel) (by decide +kernel)
set_option maxRecDepth 20000 in
theorem gX7_write_X7_beginPage : GoodIn wsX7_write (wsV RX7 39 RX7 yX7_beginPage wsX7_beginPage) := goodIn_app (goodIn_of _ (by decide +kernel)) ggX7_write_X7_beginPage
set_option maxRecDepth 20000 in
theorem ggX7_write_X4_bytesOf : GoodIn wsX7_write wsX4_bytesOf := goodIn_r _ [20, 21, 22, 23, 24, 19, 25, 26, 27, 28, 29, 30, 108, 109, 110, 111] (by decide +kernel) (by decide +kernel)
set_option maxRecDepth 20000 in
theorem gX7_write_X4_bytesOf : GoodIn wsX7_write (wsV RX7 47 RX4 yX4_bytesOf wsX4_bytesOf) := goodIn_app (goodIn_of _ (by decide +kernel)) ggX7_write_X4_bytesOf
set_option maxRecDepth 20000 in
theorem ggX7_write_X7_addSegment : GoodIn wsX7_write wsX7_addSegment := goodIn_r _ [34, 8, 35, 98, 99, 100, 101, 102, 103, 104, 105, 106, 107] (by decide +kernel) (by decide +kernel)
set_option maxRecDepth 20000 in
theorem gX7_write_X7_addSegment : GoodIn wsX7_write (wsV RX7 51 RX7 yX7_addSegment wsX7_addSegment) := goodIn_app (goodIn_of _ (by decide +kernel)) ggX7_write_X7_addSegment
set_option maxRecDepth 20000 in
theorem ggX7_write_X7_endPage : GoodIn wsX7_write wsX7_endPage := goodIn_r _ [39, 2, 40, 5, 8, 35, 1, 41, 4, 6, 42, 43, 44, 14, 45, 46, 10, 47, 3, 48, 49, 50, 51, 52, 53, 54, 55, 56, 57, 58, 59, 60, 61, 62, 63, 64, 65, 66, 67, 68, 19, 69, 70, 71, 72, 73, 74, 75, 22, 23, 24, 25, 26, 76, 77, 78, 79, 80, 81, 82, 83, 84, 85, 86, 87, 88, 89, 90, 91, 92, 93, 94, 95, 96, 97, 11, 12, 13, 15, 9, 98, 99, 100, 101, 102, 103, 104, 105, 106, 107, 112, 113, 114, 115, 108, 109, 110, 111] (by decide +kernel) (by decide +kernel)
set_option maxRecDepth 20000 in
theorem gX7_write_X7_endPage : GoodIn wsX7_write (wsV RX7 58 RX7 yX7_endPage wsX7_endPage) := goodIn_app (goodIn_of _ (by decide +kernel)) ggX7_write_X7_endPage
theorem dX7_write_0 : decode cX7_write 0 = .ok (.aload_n 0, 1) := by decide +kernel
theorem dX7_write_1 : decode cX7_write 1 = .ok (.aload_n 1, 1) := by decide +kernel
theorem dX7_write_2 : decode cX7_write 2 = .ok (.putfield 17, 3) := by decide +kernel
theorem dX7_write_5 : decode cX7_write 5 = .ok (.aload_n 0, 1) := by decide +kernel
theorem dX7_write_6 : decode cX7_write 6 = .ok (.aload_n 2, 1) := by decide +kernel
theorem dX7_write_7 : decode cX7_write 7 = .ok (.putfield 21, 3) := by decide +kernel
theorem dX7_write_10 : decode cX7_write 10 = .ok (.aload_n 0, 1) := by decide +kernel
theorem dX7_write_11 : decode cX7_write 11 = .ok (.iload_n 3, 1) := by decide +kernel
theorem dX7_write_12 : decode cX7_write 12 = .ok (.putfield 25, 3) := by decide +kernel
theorem dX7_write_15 : decode cX7_write 15 = .ok (.aload_n 0, 1) := by decide +kernel
theorem dX7_write_16 : decode cX7_write 16 = .ok (.iconst 0, 1) := by decide +kernel
theorem dX7_write_17 : decode cX7_write 17 = .ok (.putfield 29, 3) := by decide +kernel
theorem dX7_write_20 : decode cX7_write 20 = .ok (.aload_n 0, 1) := by decide +kernel
theorem dX7_write_21 : decode cX7_write 21 = .ok (.iconst 0, 1) := by decide +kernel
theorem dX7_write_22 : decode cX7_write 22 = .ok (.putfield 32, 3) := by decide +kernel
theorem dX7_write_25 : decode cX7_write 25 = .ok (.aload_n 0, 1) := by decide +kernel
theorem dX7_write_26 : decode cX7_write 26 = .ok (.iconst 0, 1) := by decide +kernel
theorem dX7_write_27 : decode cX7_write 27 = .ok (.putfield 35, 3) := by decide +kernel
theorem dX7_write_30 : decode cX7_write 30 = .ok (.aload_n 0, 1) := by decide +kernel
theorem dX7_write_31 : decode cX7_write 31 = .ok (.invokevirtual 39, 3) := by decide +kernel
theorem dX7_write_34 : decode cX7_write 34 = .ok (.iconst 0, 1) := by decide +kernel
theorem dX7_write_35 : decode cX7_write 35 = .ok (.istore 6, 2) := by decide +kernel
theorem dX7_write_37 : decode cX7_write 37 = .ok (.iload 6, 2) := by decide +kernel
theorem dX7_write_39 : decode cX7_write 39 = .ok (.aload_n 0, 1) := by decide +kernel
theorem dX7_write_40 : decode cX7_write 40 = .ok (.getfield 17, 3) := by decide +kernel
theorem dX7_write_43 : decode cX7_write 43 = .ok (.getfield 42, 3) := by decide +kernel
theorem dX7_write_46 : decode cX7_write 46 = .ok (.if_icmp .ge 154, 3) := by decide +kernel
theorem dX7_write_49 : decode cX7_write 49 = .ok (.aload_n 0, 1) := by decide +kernel
theorem dX7_write_50 : decode cX7_write 50 = .ok (.getfield 17, 3) := by decide +kernel
theorem dX7_write_53 : decode cX7_write 53 = .ok (.iload 6, 2) := by decide +kernel
theorem dX7_write_55 : decode cX7_write 55 = .ok (.invokevirtual 47, 3) := by decide +kernel
theorem dX7_write_58 : decode cX7_write 58 = .ok (.sipush 255, 3) := by decide +kernel
theorem dX7_write_61 : decode cX7_write 61 = .ok (.idiv, 1) := by decide +kernel
theorem dX7_write_62 : decode cX7_write 62 = .ok (.istore 7, 2) := by decide +kernel
theorem dX7_write_64 : decode cX7_write 64 = .ok (.iconst 0, 1) := by decide +kernel
theorem dX7_write_65 : decode cX7_write 65 = .ok (.istore 8, 2) := by decide +kernel
theorem dX7_write_67 : decode cX7_write 67 = .ok (.iload 8, 2) := by decide +kernel
theorem dX7_write_69 : decode cX7_write 69 = .ok (.iload 7, 2) := by decide +kernel
theorem dX7_write_71 : decode cX7_write 71 = .ok (.if_icmp .ge 31, 3) := by decide +kernel
theorem dX7_write_74 : decode cX7_write 74 = .ok (.aload_n 0, 1) := by decide +kernel
theorem dX7_write_75 : decode cX7_write 75 = .ok (.sipush 255, 3) := by decide +kernel
theorem dX7_write_78 : decode cX7_write 78 = .ok (.invokevirtual 51, 3) := by decide +kernel
theorem dX7_write_81 : decode cX7_write 81 = .ok (.aload_n 0, 1) := by decide +kernel
theorem dX7_write_82 : decode cX7_write 82 = .ok (.getfield 55, 3) := by decide +kernel
theorem dX7_write_85 : decode cX7_write 85 = .ok (.iload 5, 2) := by decide +kernel
theorem dX7_write_87 : decode cX7_write 87 = .ok (.if_icmp .lt 9, 3) := by decide +kernel
theorem dX7_write_90 : decode cX7_write 90 = .ok (.aload_n 0, 1) := by decide +kernel
theorem dX7_write_91 : decode cX7_write 91 = .ok (.iconst 0, 1) := by decide +kernel
theorem dX7_write_92 : decode cX7_write 92 = .ok (.iconst 1, 1) := by decide +kernel
theorem dX7_write_93 : decode cX7_write 93 = .ok (.invokevirtual 58, 3) := by decide +kernel
theorem dX7_write_96 : decode cX7_write 96 = .ok (.iinc 8 1, 3) := by decide +kernel
theorem dX7_write_99 : decode cX7_write 99 = .ok (.goto (-32), 3) := by decide +kernel
theorem dX7_write_102 : decode cX7_write 102 = .ok (.aload_n 0, 1) := by decide +kernel
theorem dX7_write_103 : decode cX7_write 103 = .ok (.aload_n 0, 1) := by decide +kernel
theorem dX7_write_104 : decode cX7_write 104 = .ok (.getfield 17, 3) := by decide +kernel
theorem dX7_write_107 : decode cX7_write 107 = .ok (.iload 6, 2) := by decide +kernel
theorem dX7_write_109 : decode cX7_write 109 = .ok (.invokevirtual 47, 3) := by decide +kernel
theorem dX7_write_112 : decode cX7_write 112 = .ok (.iload 7, 2) := by decide +kernel
theorem dX7_write_114 : decode cX7_write 114 = .ok (.sipush 255, 3) := by decide +kernel
theorem dX7_write_117 : decode cX7_write 117 = .ok (.imul, 1) := by decide +kernel
theorem dX7_write_118 : decode cX7_write 118 = .ok (.isub, 1) := by decide +kernel
theorem dX7_write_119 : decode cX7_write 119 = .ok (.invokevirtual 51, 3) := by decide +kernel
theorem dX7_write_122 : decode cX7_write 122 = .ok (.aload_n 0, 1) := by decide +kernel
theorem dX7_write_123 : decode cX7_write 123 = .ok (.dup, 1) := by decide +kernel
theorem dX7_write_124 : decode cX7_write 124 = .ok (.getfield 62, 3) := by decide +kernel
theorem dX7_write_127 : decode cX7_write 127 = .ok (.iconst 1, 1) := by decide +kernel
theorem dX7_write_128 : decode cX7_write 128 = .ok (.iadd, 1) := by decide +kernel
theorem dX7_write_129 : decode cX7_write 129 = .ok (.putfield 62, 3) := by decide +kernel
theorem dX7_write_132 : decode cX7_write 132 = .ok (.aload_n 0, 1) := by decide +kernel
theorem dX7_write_133 : decode cX7_write 133 = .ok (.iload 6, 2) := by decide +kernel
theorem dX7_write_135 : decode cX7_write 135 = .ok (.putfield 65, 3) := by decide +kernel
theorem dX7_write_138 : decode cX7_write 138 = .ok (.iload 6, 2) := by decide +kernel
theorem dX7_write_140 : decode cX7_write 140 = .ok (.aload_n 0, 1) := by decide +kernel
theorem dX7_write_141 : decode cX7_write 141 = .ok (.getfield 17, 3) := by decide +kernel
theorem dX7_write_144 : decode cX7_write 144 = .ok (.getfield 42, 3) := by decide +kernel
theorem dX7_write_147 : decode cX7_write 147 = .ok (.iconst 1, 1) := by decide +kernel
theorem dX7_write_148 : decode cX7_write 148 = .ok (.isub, 1) := by decide +kernel
theorem dX7_write_149 : decode cX7_write 149 = .ok (.if_icmp .ne 7, 3) := by decide +kernel
theorem dX7_write_152 : decode cX7_write 152 = .ok (.iconst 1, 1) := by decide +kernel
theorem dX7_write_153 : decode cX7_write 153 = .ok (.goto 4, 3) := by decide +kernel
theorem dX7_write_156 : decode cX7_write 156 = .ok (.iconst 0, 1) := by decide +kernel
theorem dX7_write_157 : decode cX7_write 157 = .ok (.istore 8, 2) := by decide +kernel
theorem dX7_write_159 : decode cX7_write 159 = .ok (.iload 8, 2) := by decide +kernel
theorem dX7_write_161 : decode cX7_write 161 = .ok (.ifCond .ne 26, 3) := by decide +kernel
theorem dX7_write_164 : decode cX7_write 164 = .ok (.iload 6, 2) := by decide +kernel
theorem dX7_write_166 : decode cX7_write 166 = .ok (.ifCond .eq 21, 3) := by decide +kernel
theorem dX7_write_169 : decode cX7_write 169 = .ok (.aload_n 0, 1) := by decide +kernel
theorem dX7_write_170 : decode cX7_write 170 = .ok (.getfield 55, 3) := by decide +kernel
theorem dX7_write_173 : decode cX7_write 173 = .ok (.iload 5, 2) := by decide +kernel
theorem dX7_write_175 : decode cX7_write 175 = .ok (.if_icmp .ge 12, 3) := by decide +kernel
theorem dX7_write_178 : decode cX7_write 178 = .ok (.aload_n 0, 1) := by decide +kernel
theorem dX7_write_179 : decode cX7_write 179 = .ok (.getfield 62, 3) := by decide +kernel
theorem dX7_write_182 : decode cX7_write 182 = .ok (.iload 4, 2) := by decide +kernel
theorem dX7_write_184 : decode cX7_write 184 = .ok (.if_icmp .lt 10, 3) := by decide +kernel
theorem dX7_write_187 : decode cX7_write 187 = .ok (.aload_n 0, 1) := by decide +kernel
theorem dX7_write_188 : decode cX7_write 188 = .ok (.iload 8, 2) := by decide +kernel
theorem dX7_write_190 : decode cX7_write 190 = .ok (.iconst 0, 1) := by decide +kernel
theorem dX7_write_191 : decode cX7_write 191 = .ok (.invokevirtual 58, 3) := by decide +kernel
theorem dX7_write_194 : decode cX7_write 194 = .ok (.iinc 6 1, 3) := by decide +kernel
theorem dX7_write_197 : decode cX7_write 197 = .ok (.goto (-160), 3) := by decide +kernel
theorem dX7_write_200 : decode cX7_write 200 = .ok (.return_, 1) := by decide +kernel
theorem dX7_beginPage_0 : decode cX7_beginPage 0 = .ok (.aload_n 0, 1) := by decide +kernel
theorem dX7_beginPage_1 : decode cX7_beginPage 1 = .ok (.iconst 0, 1) := by decide +kernel
theorem dX7_beginPage_2 : decode cX7_beginPage 2 = .ok (.putfield 55, 3) := by decide +kernel
theorem dX7_beginPage_5 : decode cX7_beginPage 5 = .ok (.aload_n 0, 1) := by decide +kernel
theorem dX7_beginPage_6 : decode cX7_beginPage 6 = .ok (.iconst 0, 1) := by decide +kernel
theorem dX7_beginPage_7 : decode cX7_beginPage 7 = .ok (.putfield 62, 3) := by decide +kernel
theorem dX7_beginPage_10 : decode cX7_beginPage 10 = .ok (.aload_n 0, 1) := by decide +kernel
theorem dX7_beginPage_11 : decode cX7_beginPage 11 = .ok (.iconst (-1), 1) := by decide +kernel
theorem dX7_beginPage_12 : decode cX7_beginPage 12 = .ok (.putfield 65, 3) := by decide +kernel
theorem dX7_beginPage_15 : decode cX7_beginPage 15 = .ok (.return_, 1) := by decide +kernel
theorem dX7_addSegment_0 : decode cX7_addSegment 0 = .ok (.aload_n 0, 1) := by decide +kernel
theorem dX7_addSegment_1 : decode cX7_addSegment 1 = .ok (.getfield 55, 3) := by decide +kernel
theorem dX7_addSegment_4 : decode cX7_addSegment 4 = .ok (.aload_n 0, 1) := by decide +kernel
theorem dX7_addSegment_5 : decode cX7_addSegment 5 = .ok (.getfield 11, 3) := by decide +kernel
theorem dX7_addSegment_8 : decode cX7_addSegment 8 = .ok (.arraylength, 1) := by decide +kernel
theorem dX7_addSegment_9 : decode cX7_addSegment 9 = .ok (.if_icmp .ge 23, 3) := by decide +kernel
theorem dX7_addSegment_12 : decode cX7_addSegment 12 = .ok (.aload_n 0, 1) := by decide +kernel
theorem dX7_addSegment_13 : decode cX7_addSegment 13 = .ok (.getfield 11, 3) := by decide +kernel
theorem dX7_addSegment_16 : decode cX7_addSegment 16 = .ok (.aload_n 0, 1) := by decide +kernel
theorem dX7_addSegment_17 : decode cX7_addSegment 17 = .ok (.getfield 55, 3) := by decide +kernel
theorem dX7_addSegment_20 : decode cX7_addSegment 20 = .ok (.iload_n 1, 1) := by decide +kernel
theorem dX7_addSegment_21 : decode cX7_addSegment 21 = .ok (.iastore, 1) := by decide +kernel
theorem dX7_addSegment_22 : decode cX7_addSegment 22 = .ok (.aload_n 0, 1) := by decide +kernel
theorem dX7_addSegment_23 : decode cX7_addSegment 23 = .ok (.dup, 1) := by decide +kernel
theorem dX7_addSegment_24 : decode cX7_addSegment 24 = .ok (.getfield 55, 3) := by decide +kernel
theorem dX7_addSegment_27 : decode cX7_addSegment 27 = .ok (.iconst 1, 1) := by decide +kernel
theorem dX7_addSegment_28 : decode cX7_addSegment 28 = .ok (.iadd, 1) := by decide +kernel
theorem dX7_addSegment_29 : decode cX7_addSegment 29 = .ok (.putfield 55, 3) := by decide +kernel
theorem dX7_addSegment_32 : decode cX7_addSegment 32 = .ok (.return_, 1) := by decide +kernel
set_option maxRecDepth 20000 in
theorem ggX7_endPage_X7_putHeader : GoodIn wsX7_endPage wsX7_putHeader := goodIn_r _ [14, 9, 8, 1, 15, 16, 17, 6, 18, 4, 19, 20, 21, 22, 23, 24, 25, 26, 27, 28, 29, 30, 31, 32, 33, 34, 35, 36, 37, 38, 39, 40, 41, 42, 43, 44, 45, 46, 47, 48, 49, 50, 51, 52, 53, 54, 55, 56, 80, 81, 82, 83, 84, 85, 86, 87, 88, 89, 90, 91, 92, 93, 94, 95, 96, 97] (by decide +kernel) (by decide +kernel)
set_option maxRecDepth 20000 in
theorem gX7_endPage_X7_putHeader : GoodIn wsX7_endPage (wsV RX7 73 RX7 yX7_putHeader wsX7_putHeader) := goodIn_app (goodIn_of _ (by decide +kernel)) ggX7_endPage_X7_putHeader
set_option maxRecDepth 20000 in
theorem ggX7_endPage_X8_add : GoodIn wsX7_endPage wsX8_add := goodIn_r _ [27, 28, 29, 30, 31, 32, 33, 22, 34, 35, 90, 91, 92, 93] (by decide +kernel) (by decide +kernel)
set_option maxRecDepth 20000 in
theorem gX7_endPage_X8_add : GoodIn wsX7_endPage (wsV RX7 77 RX8 yX8_add wsX8_add) := goodIn_app (goodIn_of _ (by decide +kernel)) ggX7_endPage_X8_add
set_option maxRecDepth 20000 in
theorem ggX7_endPage_X8_addPart : GoodIn wsX7_endPage wsX8_addPart := goodIn_r _ [60, 61, 62, 63, 22, 64, 28, 35, 24, 25, 26, 27, 29, 30, 31, 32, 33, 34, 90, 91, 92, 93] (by decide +kernel) (by decide +kernel)
set_option maxRecDepth 20000 in
theorem gX7_endPage_X8_addPart : GoodIn wsX7_endPage (wsV RX7 83 RX8 yX8_addPart wsX8_addPart) := goodIn_app (goodIn_of _ (by decide +kernel)) ggX7_endPage_X8_addPart
set_option maxRecDepth 20000 in
theorem ggX7_endPage_X5_makeSumRight : GoodIn wsX7_endPage wsX5_makeSumRight := goodIn_r _ [68, 69, 70, 67, 71, 72, 73, 62, 63, 22, 64, 28, 35, 74, 32, 33, 34, 90, 91, 92, 93] (by decide +kernel) (by decide +kernel)
set_option maxRecDepth 20000 in
theorem gX7_endPage_X5_makeSumRight : GoodIn wsX7_endPage (va_wsS RX7 87 yX5_makeSumRight wsX5_makeSumRight) := goodIn_app (goodIn_of _ (by decide +kernel)) ggX7_endPage_X5_makeSumRight
set_option maxRecDepth 20000 in
theorem ggX7_endPage_X7_beginPage : GoodIn wsX7_endPage wsX7_beginPage := goodIn_r _ [78, 4, 79, 16, 80, 81, 82, 83, 84, 85, 86, 87, 88, 89] (by decide +kernel) (by decide +kernel)
set_option maxRecDepth 20000 in
theorem gX7_endPage_X7_beginPage : GoodIn wsX7_endPage (wsV RX7 39 RX7 yX7_beginPage wsX7_beginPage) := goodIn_app (goodIn_of _ (by decide +kernel)) ggX7_endPage_X7_beginPage
theorem dX7_endPage_0 : decode cX7_endPage 0 = .ok (.aload_n 0, 1) := by decide +kernel
theorem dX7_endPage_1 : decode cX7_endPage 1 = .ok (.getfield 21, 3) := by decide +kernel
theorem dX7_endPage_4 : decode cX7_endPage 4 = .ok (.getfield 68, 3) := by decide +kernel
theorem dX7_endPage_7 : decode cX7_endPage 7 = .ok (.istore_n 3, 1) := by decide +kernel
theorem dX7_endPage_8 : decode cX7_endPage 8 = .ok (.aload_n 0, 1) := by decide +kernel
theorem dX7_endPage_9 : decode cX7_endPage 9 = .ok (.iload_n 1, 1) := by decide +kernel
theorem dX7_endPage_10 : decode cX7_endPage 10 = .ok (.invokevirtual 73, 3) := by decide +kernel
theorem dX7_endPage_13 : decode cX7_endPage 13 = .ok (.aload_n 0, 1) := by decide +kernel
theorem dX7_endPage_14 : decode cX7_endPage 14 = .ok (.getfield 32, 3) := by decide +kernel
theorem dX7_endPage_17 : decode cX7_endPage 17 = .ok (.istore 4, 2) := by decide +kernel
theorem dX7_endPage_19 : decode cX7_endPage 19 = .ok (.iconst 0, 1) := by decide +kernel
theorem dX7_endPage_20 : decode cX7_endPage 20 = .ok (.istore 5, 2) := by decide +kernel
theorem dX7_endPage_22 : decode cX7_endPage 22 = .ok (.iload 5, 2) := by decide +kernel
theorem dX7_endPage_24 : decode cX7_endPage 24 = .ok (.aload_n 0, 1) := by decide +kernel
theorem dX7_endPage_25 : decode cX7_endPage 25 = .ok (.getfield 55, 3) := by decide +kernel
theorem dX7_endPage_28 : decode cX7_endPage 28 = .ok (.if_icmp .ge 35, 3) := by decide +kernel
theorem dX7_endPage_31 : decode cX7_endPage 31 = .ok (.aload_n 0, 1) := by decide +kernel
theorem dX7_endPage_32 : decode cX7_endPage 32 = .ok (.getfield 21, 3) := by decide +kernel
theorem dX7_endPage_35 : decode cX7_endPage 35 = .ok (.aload_n 0, 1) := by decide +kernel
theorem dX7_endPage_36 : decode cX7_endPage 36 = .ok (.getfield 11, 3) := by decide +kernel
theorem dX7_endPage_39 : decode cX7_endPage 39 = .ok (.iload 5, 2) := by decide +kernel
theorem dX7_endPage_41 : decode cX7_endPage 41 = .ok (.iaload, 1) := by decide +kernel
theorem dX7_endPage_42 : decode cX7_endPage 42 = .ok (.invokevirtual 77, 3) := by decide +kernel
theorem dX7_endPage_45 : decode cX7_endPage 45 = .ok (.iload 4, 2) := by decide +kernel
theorem dX7_endPage_47 : decode cX7_endPage 47 = .ok (.aload_n 0, 1) := by decide +kernel
theorem dX7_endPage_48 : decode cX7_endPage 48 = .ok (.getfield 11, 3) := by decide +kernel
theorem dX7_endPage_51 : decode cX7_endPage 51 = .ok (.iload 5, 2) := by decide +kernel
theorem dX7_endPage_53 : decode cX7_endPage 53 = .ok (.iaload, 1) := by decide +kernel
theorem dX7_endPage_54 : decode cX7_endPage 54 = .ok (.iadd, 1) := by decide +kernel
theorem dX7_endPage_55 : decode cX7_endPage 55 = .ok (.istore 4, 2) := by decide +kernel
theorem dX7_endPage_57 : decode cX7_endPage 57 = .ok (.iinc 5 1, 3) := by decide +kernel
theorem dX7_endPage_60 : decode cX7_endPage 60 = .ok (.goto (-38), 3) := by decide +kernel
theorem dX7_endPage_63 : decode cX7_endPage 63 = .ok (.aload_n 0, 1) := by decide +kernel
theorem dX7_endPage_64 : decode cX7_endPage 64 = .ok (.getfield 21, 3) := by decide +kernel
theorem dX7_endPage_67 : decode cX7_endPage 67 = .ok (.aload_n 0, 1) := by decide +kernel
theorem dX7_endPage_68 : decode cX7_endPage 68 = .ok (.getfield 17, 3) := by decide +kernel
theorem dX7_endPage_71 : decode cX7_endPage 71 = .ok (.getfield 80, 3) := by decide +kernel
theorem dX7_endPage_74 : decode cX7_endPage 74 = .ok (.aload_n 0, 1) := by decide +kernel
theorem dX7_endPage_75 : decode cX7_endPage 75 = .ok (.getfield 32, 3) := by decide +kernel
theorem dX7_endPage_78 : decode cX7_endPage 78 = .ok (.iload 4, 2) := by decide +kernel
theorem dX7_endPage_80 : decode cX7_endPage 80 = .ok (.aload_n 0, 1) := by decide +kernel
theorem dX7_endPage_81 : decode cX7_endPage 81 = .ok (.getfield 32, 3) := by decide +kernel
theorem dX7_endPage_84 : decode cX7_endPage 84 = .ok (.isub, 1) := by decide +kernel
theorem dX7_endPage_85 : decode cX7_endPage 85 = .ok (.invokevirtual 83, 3) := by decide +kernel
theorem dX7_endPage_88 : decode cX7_endPage 88 = .ok (.aload_n 0, 1) := by decide +kernel
theorem dX7_endPage_89 : decode cX7_endPage 89 = .ok (.getfield 21, 3) := by decide +kernel
theorem dX7_endPage_92 : decode cX7_endPage 92 = .ok (.iload_n 3, 1) := by decide +kernel
theorem dX7_endPage_93 : decode cX7_endPage 93 = .ok (.aload_n 0, 1) := by decide +kernel
theorem dX7_endPage_94 : decode cX7_endPage 94 = .ok (.getfield 21, 3) := by decide +kernel
theorem dX7_endPage_97 : decode cX7_endPage 97 = .ok (.getfield 68, 3) := by decide +kernel
theorem dX7_endPage_100 : decode cX7_endPage 100 = .ok (.invokestatic 87, 3) := by decide +kernel
theorem dX7_endPage_103 : decode cX7_endPage 103 = .ok (.aload_n 0, 1) := by decide +kernel
theorem dX7_endPage_104 : decode cX7_endPage 104 = .ok (.iload 4, 2) := by decide +kernel
theorem dX7_endPage_106 : decode cX7_endPage 106 = .ok (.putfield 32, 3) := by decide +kernel
theorem dX7_endPage_109 : decode cX7_endPage 109 = .ok (.aload_n 0, 1) := by decide +kernel
theorem dX7_endPage_110 : decode cX7_endPage 110 = .ok (.dup, 1) := by decide +kernel
theorem dX7_endPage_111 : decode cX7_endPage 111 = .ok (.getfield 29, 3) := by decide +kernel
theorem dX7_endPage_114 : decode cX7_endPage 114 = .ok (.iconst 1, 1) := by decide +kernel
theorem dX7_endPage_115 : decode cX7_endPage 115 = .ok (.iadd, 1) := by decide +kernel
theorem dX7_endPage_116 : decode cX7_endPage 116 = .ok (.putfield 29, 3) := by decide +kernel
theorem dX7_endPage_119 : decode cX7_endPage 119 = .ok (.aload_n 0, 1) := by decide +kernel
theorem dX7_endPage_120 : decode cX7_endPage 120 = .ok (.iload_n 2, 1) := by decide +kernel
theorem dX7_endPage_121 : decode cX7_endPage 121 = .ok (.putfield 35, 3) := by decide +kernel
theorem dX7_endPage_124 : decode cX7_endPage 124 = .ok (.aload_n 0, 1) := by decide +kernel
theorem dX7_endPage_125 : decode cX7_endPage 125 = .ok (.invokevirtual 39, 3) := by decide +kernel
theorem dX7_endPage_128 : decode cX7_endPage 128 = .ok (.return_, 1) := by decide +kernel
set_option maxRecDepth 20000 in
theorem ggX7_putHeader_X8_addHighFirst : GoodIn wsX7_putHeader wsX8_addHighFirst := goodIn_r _ [14, 15, 16, 17, 13, 18, 19, 20, 21, 22, 23, 24, 25, 26, 58, 59, 60, 61] (by decide +kernel) (by decide +kernel)
set_option maxRecDepth 20000 in
theorem gX7_putHeader_X8_addHighFirst : GoodIn wsX7_putHeader (wsV RX7 92 RX8 yX8_addHighFirst wsX8_addHighFirst) := goodIn_app (goodIn_of _ (by decide +kernel)) ggX7_putHeader_X8_addHighFirst
set_option maxRecDepth 20000 in
theorem ggX7_putHeader_X8_add : GoodIn wsX7_putHeader wsX8_add := goodIn_r _ [18, 19, 20, 21, 22, 23, 24, 13, 25, 26, 58, 59, 60, 61] (by decide +kernel) (by decide +kernel)
set_option maxRecDepth 20000 in
theorem gX7_putHeader_X8_add : GoodIn wsX7_putHeader (wsV RX7 77 RX8 yX8_add wsX8_add) := goodIn_app (goodIn_of _ (by decide +kernel)) ggX7_putHeader_X8_add
set_option maxRecDepth 20000 in
theorem ggX7_putHeader_X4_timeToWrite : GoodIn wsX7_putHeader wsX4_timeToWrite := goodIn_r _ [32, 33, 34, 35, 36, 31, 37, 38, 39, 40, 41, 42, 43, 62, 63, 64, 65] (by decide +kernel) (by decide +kernel)
set_option maxRecDepth 20000 in
theorem gX7_putHeader_X4_timeToWrite : GoodIn wsX7_putHeader (wsV RX7 98 RX4 yX4_timeToWrite wsX4_timeToWrite) := goodIn_app (goodIn_of _ (by decide +kernel)) ggX7_putHeader_X4_timeToWrite
set_option maxRecDepth 20000 in
theorem ggX7_putHeader_X8_addLowFirst : GoodIn wsX7_putHeader wsX8_addLowFirst := goodIn_r _ [47, 15, 16, 17, 13, 18, 19, 20, 21, 22, 23, 24, 25, 26, 58, 59, 60, 61] (by decide +kernel) (by decide +kernel)
set_option maxRecDepth 20000 in
theorem gX7_putHeader_X8_addLowFirst : GoodIn wsX7_putHeader (wsV RX7 102 RX8 yX8_addLowFirst wsX8_addLowFirst) := goodIn_app (goodIn_of _ (by decide +kernel)) ggX7_putHeader_X8_addLowFirst
theorem dX7_putHeader_0 : decode cX7_putHeader 0 = .ok (.aload_n 0, 1) := by decide +kernel
theorem dX7_putHeader_1 : decode cX7_putHeader 1 = .ok (.getfield 35, 3) := by decide +kernel
theorem dX7_putHeader_4 : decode cX7_putHeader 4 = .ok (.ifCond .eq 7, 3) := by decide +kernel
theorem dX7_putHeader_7 : decode cX7_putHeader 7 = .ok (.iconst 1, 1) := by decide +kernel
theorem dX7_putHeader_8 : decode cX7_putHeader 8 = .ok (.goto 4, 3) := by decide +kernel
theorem dX7_putHeader_11 : decode cX7_putHeader 11 = .ok (.iconst 0, 1) := by decide +kernel
theorem dX7_putHeader_12 : decode cX7_putHeader 12 = .ok (.istore_n 2, 1) := by decide +kernel
theorem dX7_putHeader_13 : decode cX7_putHeader 13 = .ok (.iload_n 2, 1) := by decide +kernel
theorem dX7_putHeader_14 : decode cX7_putHeader 14 = .ok (.aload_n 0, 1) := by decide +kernel
theorem dX7_putHeader_15 : decode cX7_putHeader 15 = .ok (.getfield 29, 3) := by decide +kernel
theorem dX7_putHeader_18 : decode cX7_putHeader 18 = .ok (.ifCond .ne 7, 3) := by decide +kernel
theorem dX7_putHeader_21 : decode cX7_putHeader 21 = .ok (.iconst 2, 1) := by decide +kernel
theorem dX7_putHeader_22 : decode cX7_putHeader 22 = .ok (.goto 4, 3) := by decide +kernel
theorem dX7_putHeader_25 : decode cX7_putHeader 25 = .ok (.iconst 0, 1) := by decide +kernel
theorem dX7_putHeader_26 : decode cX7_putHeader 26 = .ok (.ior, 1) := by decide +kernel
theorem dX7_putHeader_27 : decode cX7_putHeader 27 = .ok (.istore_n 2, 1) := by decide +kernel
theorem dX7_putHeader_28 : decode cX7_putHeader 28 = .ok (.iload_n 2, 1) := by decide +kernel
theorem dX7_putHeader_29 : decode cX7_putHeader 29 = .ok (.iload_n 1, 1) := by decide +kernel
theorem dX7_putHeader_30 : decode cX7_putHeader 30 = .ok (.ifCond .eq 7, 3) := by decide +kernel
theorem dX7_putHeader_33 : decode cX7_putHeader 33 = .ok (.iconst 4, 1) := by decide +kernel
theorem dX7_putHeader_34 : decode cX7_putHeader 34 = .ok (.goto 4, 3) := by decide +kernel
theorem dX7_putHeader_37 : decode cX7_putHeader 37 = .ok (.iconst 0, 1) := by decide +kernel
theorem dX7_putHeader_38 : decode cX7_putHeader 38 = .ok (.ior, 1) := by decide +kernel
theorem dX7_putHeader_39 : decode cX7_putHeader 39 = .ok (.istore_n 2, 1) := by decide +kernel
theorem dX7_putHeader_40 : decode cX7_putHeader 40 = .ok (.aload_n 0, 1) := by decide +kernel
theorem dX7_putHeader_41 : decode cX7_putHeader 41 = .ok (.getfield 21, 3) := by decide +kernel
theorem dX7_putHeader_44 : decode cX7_putHeader 44 = .ok (.ldc2_w 90, 3) := by decide +kernel
theorem dX7_putHeader_47 : decode cX7_putHeader 47 = .ok (.iconst 4, 1) := by decide +kernel
theorem dX7_putHeader_48 : decode cX7_putHeader 48 = .ok (.invokevirtual 92, 3) := by decide +kernel
theorem dX7_putHeader_51 : decode cX7_putHeader 51 = .ok (.aload_n 0, 1) := by decide +kernel
theorem dX7_putHeader_52 : decode cX7_putHeader 52 = .ok (.getfield 21, 3) := by decide +kernel
theorem dX7_putHeader_55 : decode cX7_putHeader 55 = .ok (.iconst 0, 1) := by decide +kernel
theorem dX7_putHeader_56 : decode cX7_putHeader 56 = .ok (.invokevirtual 77, 3) := by decide +kernel
theorem dX7_putHeader_59 : decode cX7_putHeader 59 = .ok (.aload_n 0, 1) := by decide +kernel
theorem dX7_putHeader_60 : decode cX7_putHeader 60 = .ok (.getfield 21, 3) := by decide +kernel
theorem dX7_putHeader_63 : decode cX7_putHeader 63 = .ok (.iload_n 2, 1) := by decide +kernel
theorem dX7_putHeader_64 : decode cX7_putHeader 64 = .ok (.invokevirtual 77, 3) := by decide +kernel
theorem dX7_putHeader_67 : decode cX7_putHeader 67 = .ok (.aload_n 0, 1) := by decide +kernel
theorem dX7_putHeader_68 : decode cX7_putHeader 68 = .ok (.getfield 21, 3) := by decide +kernel
theorem dX7_putHeader_71 : decode cX7_putHeader 71 = .ok (.aload_n 0, 1) := by decide +kernel
theorem dX7_putHeader_72 : decode cX7_putHeader 72 = .ok (.getfield 65, 3) := by decide +kernel
theorem dX7_putHeader_75 : decode cX7_putHeader 75 = .ok (.iconst (-1), 1) := by decide +kernel
theorem dX7_putHeader_76 : decode cX7_putHeader 76 = .ok (.if_icmp .ne 9, 3) := by decide +kernel
theorem dX7_putHeader_79 : decode cX7_putHeader 79 = .ok (.ldc2_w 96, 3) := by decide +kernel
theorem dX7_putHeader_82 : decode cX7_putHeader 82 = .ok (.goto 14, 3) := by decide +kernel
theorem dX7_putHeader_85 : decode cX7_putHeader 85 = .ok (.aload_n 0, 1) := by decide +kernel
theorem dX7_putHeader_86 : decode cX7_putHeader 86 = .ok (.getfield 17, 3) := by decide +kernel
theorem dX7_putHeader_89 : decode cX7_putHeader 89 = .ok (.aload_n 0, 1) := by decide +kernel
theorem dX7_putHeader_90 : decode cX7_putHeader 90 = .ok (.getfield 65, 3) := by decide +kernel
theorem dX7_putHeader_93 : decode cX7_putHeader 93 = .ok (.invokevirtual 98, 3) := by decide +kernel
theorem dX7_putHeader_96 : decode cX7_putHeader 96 = .ok (.bipush 8, 2) := by decide +kernel
theorem dX7_putHeader_98 : decode cX7_putHeader 98 = .ok (.invokevirtual 102, 3) := by decide +kernel
theorem dX7_putHeader_101 : decode cX7_putHeader 101 = .ok (.aload_n 0, 1) := by decide +kernel
theorem dX7_putHeader_102 : decode cX7_putHeader 102 = .ok (.getfield 21, 3) := by decide +kernel
theorem dX7_putHeader_105 : decode cX7_putHeader 105 = .ok (.aload_n 0, 1) := by decide +kernel
theorem dX7_putHeader_106 : decode cX7_putHeader 106 = .ok (.getfield 25, 3) := by decide +kernel
theorem dX7_putHeader_109 : decode cX7_putHeader 109 = .ok (.i2l, 1) := by decide +kernel
theorem dX7_putHeader_110 : decode cX7_putHeader 110 = .ok (.iconst 4, 1) := by decide +kernel
theorem dX7_putHeader_111 : decode cX7_putHeader 111 = .ok (.invokevirtual 102, 3) := by decide +kernel
theorem dX7_putHeader_114 : decode cX7_putHeader 114 = .ok (.aload_n 0, 1) := by decide +kernel
theorem dX7_putHeader_115 : decode cX7_putHeader 115 = .ok (.getfield 21, 3) := by decide +kernel
theorem dX7_putHeader_118 : decode cX7_putHeader 118 = .ok (.aload_n 0, 1) := by decide +kernel
theorem dX7_putHeader_119 : decode cX7_putHeader 119 = .ok (.getfield 29, 3) := by decide +kernel
theorem dX7_putHeader_122 : decode cX7_putHeader 122 = .ok (.i2l, 1) := by decide +kernel
theorem dX7_putHeader_123 : decode cX7_putHeader 123 = .ok (.iconst 4, 1) := by decide +kernel
theorem dX7_putHeader_124 : decode cX7_putHeader 124 = .ok (.invokevirtual 102, 3) := by decide +kernel
theorem dX7_putHeader_127 : decode cX7_putHeader 127 = .ok (.aload_n 0, 1) := by decide +kernel
theorem dX7_putHeader_128 : decode cX7_putHeader 128 = .ok (.getfield 21, 3) := by decide +kernel
theorem dX7_putHeader_131 : decode cX7_putHeader 131 = .ok (.lconst 0, 1) := by decide +kernel
theorem dX7_putHeader_132 : decode cX7_putHeader 132 = .ok (.iconst 4, 1) := by decide +kernel
theorem dX7_putHeader_133 : decode cX7_putHeader 133 = .ok (.invokevirtual 102, 3) := by decide +kernel
theorem dX7_putHeader_136 : decode cX7_putHeader 136 = .ok (.aload_n 0, 1) := by decide +kernel
theorem dX7_putHeader_137 : decode cX7_putHeader 137 = .ok (.getfield 21, 3) := by decide +kernel
theorem dX7_putHeader_140 : decode cX7_putHeader 140 = .ok (.aload_n 0, 1) := by decide +kernel
theorem dX7_putHeader_141 : decode cX7_putHeader 141 = .ok (.getfield 55, 3) := by decide +kernel
theorem dX7_putHeader_144 : decode cX7_putHeader 144 = .ok (.invokevirtual 77, 3) := by decide +kernel
theorem dX7_putHeader_147 : decode cX7_putHeader 147 = .ok (.return_, 1) := by decide +kernel
theorem dX8_init_0 : decode cX8_init 0 = .ok (.aload_n 0, 1) := by decide +kernel
theorem dX8_init_1 : decode cX8_init 1 = .ok (.invokespecial 3, 3) := by decide +kernel
theorem dX8_init_4 : decode cX8_init 4 = .ok (.aload_n 0, 1) := by decide +kernel
theorem dX8_init_5 : decode cX8_init 5 = .ok (.iload_n 1, 1) := by decide +kernel
theorem dX8_init_6 : decode cX8_init 6 = .ok (.iconst 0, 1) := by decide +kernel
theorem dX8_init_7 : decode cX8_init 7 = .ok (.invokestatic 9, 3) := by decide +kernel
theorem dX8_init_10 : decode cX8_init 10 = .ok (.putfield 15, 3) := by decide +kernel
theorem dX8_init_13 : decode cX8_init 13 = .ok (.aload_n 0, 1) := by decide +kernel
theorem dX8_init_14 : decode cX8_init 14 = .ok (.aload_n 0, 1) := by decide +kernel
theorem dX8_init_15 : decode cX8_init 15 = .ok (.getfield 15, 3) := by decide +kernel
theorem dX8_init_18 : decode cX8_init 18 = .ok (.iconst 4, 1) := by decide +kernel
theorem dX8_init_19 : decode cX8_init 19 = .ok (.idiv, 1) := by decide +kernel
theorem dX8_init_20 : decode cX8_init 20 = .ok (.iconst 1, 1) := by decide +kernel
theorem dX8_init_21 : decode cX8_init 21 = .ok (.iadd, 1) := by decide +kernel
theorem dX8_init_22 : decode cX8_init 22 = .ok (.newarray .int, 2) := by decide +kernel
theorem dX8_init_24 : decode cX8_init 24 = .ok (.putfield 21, 3) := by decide +kernel
theorem dX8_init_27 : decode cX8_init 27 = .ok (.return_, 1) := by decide +kernel
theorem dX8_empty_0 : decode cX8_empty 0 = .ok (.aload_n 0, 1) := by decide +kernel
theorem dX8_empty_1 : decode cX8_empty 1 = .ok (.iconst 0, 1) := by decide +kernel
theorem dX8_empty_2 : decode cX8_empty 2 = .ok (.putfield 25, 3) := by decide +kernel
theorem dX8_empty_5 : decode cX8_empty 5 = .ok (.aload_n 0, 1) := by decide +kernel
theorem dX8_empty_6 : decode cX8_empty 6 = .ok (.iconst 0, 1) := by decide +kernel
theorem dX8_empty_7 : decode cX8_empty 7 = .ok (.putfield 28, 3) := by decide +kernel
theorem dX8_empty_10 : decode cX8_empty 10 = .ok (.return_, 1) := by decide +kernel
theorem dX8_at_0 : decode cX8_at 0 = .ok (.iload_n 1, 1) := by decide +kernel
theorem dX8_at_1 : decode cX8_at 1 = .ok (.ifCond .lt 11, 3) := by decide +kernel
theorem dX8_at_4 : decode cX8_at 4 = .ok (.iload_n 1, 1) := by decide +kernel
theorem dX8_at_5 : decode cX8_at 5 = .ok (.aload_n 0, 1) := by decide +kernel
theorem dX8_at_6 : decode cX8_at 6 = .ok (.getfield 25, 3) := by decide +kernel
theorem dX8_at_9 : decode cX8_at 9 = .ok (.if_icmp .lt 5, 3) := by decide +kernel
theorem dX8_at_12 : decode cX8_at 12 = .ok (.iconst (-1), 1) := by decide +kernel
theorem dX8_at_13 : decode cX8_at 13 = .ok (.ireturn, 1) := by decide +kernel
theorem dX8_at_14 : decode cX8_at 14 = .ok (.aload_n 0, 1) := by decide +kernel
theorem dX8_at_15 : decode cX8_at 15 = .ok (.getfield 21, 3) := by decide +kernel
theorem dX8_at_18 : decode cX8_at 18 = .ok (.iload_n 1, 1) := by decide +kernel
theorem dX8_at_19 : decode cX8_at 19 = .ok (.iconst 2, 1) := by decide +kernel
theorem dX8_at_20 : decode cX8_at 20 = .ok (.ishr, 1) := by decide +kernel
theorem dX8_at_21 : decode cX8_at 21 = .ok (.iaload, 1) := by decide +kernel
theorem dX8_at_22 : decode cX8_at 22 = .ok (.bipush 8, 2) := by decide +kernel
theorem dX8_at_24 : decode cX8_at 24 = .ok (.iload_n 1, 1) := by decide +kernel
theorem dX8_at_25 : decode cX8_at 25 = .ok (.iconst 3, 1) := by decide +kernel
theorem dX8_at_26 : decode cX8_at 26 = .ok (.iand, 1) := by decide +kernel
theorem dX8_at_27 : decode cX8_at 27 = .ok (.imul, 1) := by decide +kernel
theorem dX8_at_28 : decode cX8_at 28 = .ok (.iushr, 1) := by decide +kernel
theorem dX8_at_29 : decode cX8_at 29 = .ok (.sipush 255, 3) := by decide +kernel
theorem dX8_at_32 : decode cX8_at 32 = .ok (.iand, 1) := by decide +kernel
theorem dX8_at_33 : decode cX8_at 33 = .ok (.ireturn, 1) := by decide +kernel
theorem dX8_change_0 : decode cX8_change 0 = .ok (.iload_n 1, 1) := by decide +kernel
theorem dX8_change_1 : decode cX8_change 1 = .ok (.ifCond .lt 11, 3) := by decide +kernel
theorem dX8_change_4 : decode cX8_change 4 = .ok (.iload_n 1, 1) := by decide +kernel
theorem dX8_change_5 : decode cX8_change 5 = .ok (.aload_n 0, 1) := by decide +kernel
theorem dX8_change_6 : decode cX8_change 6 = .ok (.getfield 25, 3) := by decide +kernel
theorem dX8_change_9 : decode cX8_change 9 = .ok (.if_icmp .lt 5, 3) := by decide +kernel
theorem dX8_change_12 : decode cX8_change 12 = .ok (.iconst 0, 1) := by decide +kernel
theorem dX8_change_13 : decode cX8_change 13 = .ok (.ireturn, 1) := by decide +kernel
theorem dX8_change_14 : decode cX8_change 14 = .ok (.bipush 8, 2) := by decide +kernel
theorem dX8_change_16 : decode cX8_change 16 = .ok (.iload_n 1, 1) := by decide +kernel
theorem dX8_change_17 : decode cX8_change 17 = .ok (.iconst 3, 1) := by decide +kernel
theorem dX8_change_18 : decode cX8_change 18 = .ok (.iand, 1) := by decide +kernel
theorem dX8_change_19 : decode cX8_change 19 = .ok (.imul, 1) := by decide +kernel
theorem dX8_change_20 : decode cX8_change 20 = .ok (.istore_n 3, 1) := by decide +kernel
theorem dX8_change_21 : decode cX8_change 21 = .ok (.aload_n 0, 1) := by decide +kernel
theorem dX8_change_22 : decode cX8_change 22 = .ok (.getfield 21, 3) := by decide +kernel
theorem dX8_change_25 : decode cX8_change 25 = .ok (.iload_n 1, 1) := by decide +kernel
theorem dX8_change_26 : decode cX8_change 26 = .ok (.iconst 2, 1) := by decide +kernel
theorem dX8_change_27 : decode cX8_change 27 = .ok (.ishr, 1) := by decide +kernel
theorem dX8_change_28 : decode cX8_change 28 = .ok (.aload_n 0, 1) := by decide +kernel
theorem dX8_change_29 : decode cX8_change 29 = .ok (.getfield 21, 3) := by decide +kernel
theorem dX8_change_32 : decode cX8_change 32 = .ok (.iload_n 1, 1) := by decide +kernel
theorem dX8_change_33 : decode cX8_change 33 = .ok (.iconst 2, 1) := by decide +kernel
theorem dX8_change_34 : decode cX8_change 34 = .ok (.ishr, 1) := by decide +kernel
theorem dX8_change_35 : decode cX8_change 35 = .ok (.iaload, 1) := by decide +kernel
theorem dX8_change_36 : decode cX8_change 36 = .ok (.sipush 255, 3) := by decide +kernel
theorem dX8_change_39 : decode cX8_change 39 = .ok (.iload_n 3, 1) := by decide +kernel
theorem dX8_change_40 : decode cX8_change 40 = .ok (.ishl, 1) := by decide +kernel
theorem dX8_change_41 : decode cX8_change 41 = .ok (.iconst (-1), 1) := by decide +kernel
theorem dX8_change_42 : decode cX8_change 42 = .ok (.ixor, 1) := by decide +kernel
theorem dX8_change_43 : decode cX8_change 43 = .ok (.iand, 1) := by decide +kernel
theorem dX8_change_44 : decode cX8_change 44 = .ok (.iload_n 2, 1) := by decide +kernel
theorem dX8_change_45 : decode cX8_change 45 = .ok (.sipush 255, 3) := by decide +kernel
theorem dX8_change_48 : decode cX8_change 48 = .ok (.iand, 1) := by decide +kernel
theorem dX8_change_49 : decode cX8_change 49 = .ok (.iload_n 3, 1) := by decide +kernel
theorem dX8_change_50 : decode cX8_change 50 = .ok (.ishl, 1) := by decide +kernel
theorem dX8_change_51 : decode cX8_change 51 = .ok (.ior, 1) := by decide +kernel
theorem dX8_change_52 : decode cX8_change 52 = .ok (.iastore, 1) := by decide +kernel
theorem dX8_change_53 : decode cX8_change 53 = .ok (.iconst 1, 1) := by decide +kernel
theorem dX8_change_54 : decode cX8_change 54 = .ok (.ireturn, 1) := by decide +kernel
set_option maxRecDepth 20000 in
theorem ggX8_add_X8_change : GoodIn wsX8_add wsX8_change := goodIn_r _ [8, 1, 9, 10, 11, 12, 13] (by decide +kernel) (by decide +kernel)
set_option maxRecDepth 20000 in
theorem gX8_add_X8_change : GoodIn wsX8_add (wsV RX8 32 RX8 yX8_change wsX8_change) := goodIn_app (goodIn_of _ (by decide +kernel)) ggX8_add_X8_change
theorem dX8_add_0 : decode cX8_add 0 = .ok (.aload_n 0, 1) := by decide +kernel
theorem dX8_add_1 : decode cX8_add 1 = .ok (.getfield 25, 3) := by decide +kernel
theorem dX8_add_4 : decode cX8_add 4 = .ok (.aload_n 0, 1) := by decide +kernel
theorem dX8_add_5 : decode cX8_add 5 = .ok (.getfield 15, 3) := by decide +kernel
theorem dX8_add_8 : decode cX8_add 8 = .ok (.if_icmp .lt 9, 3) := by decide +kernel
theorem dX8_add_11 : decode cX8_add 11 = .ok (.aload_n 0, 1) := by decide +kernel
theorem dX8_add_12 : decode cX8_add 12 = .ok (.iconst 1, 1) := by decide +kernel
theorem dX8_add_13 : decode cX8_add 13 = .ok (.putfield 28, 3) := by decide +kernel
theorem dX8_add_16 : decode cX8_add 16 = .ok (.return_, 1) := by decide +kernel
theorem dX8_add_17 : decode cX8_add 17 = .ok (.aload_n 0, 1) := by decide +kernel
theorem dX8_add_18 : decode cX8_add 18 = .ok (.dup, 1) := by decide +kernel
theorem dX8_add_19 : decode cX8_add 19 = .ok (.getfield 25, 3) := by decide +kernel
theorem dX8_add_22 : decode cX8_add 22 = .ok (.iconst 1, 1) := by decide +kernel
theorem dX8_add_23 : decode cX8_add 23 = .ok (.iadd, 1) := by decide +kernel
theorem dX8_add_24 : decode cX8_add 24 = .ok (.putfield 25, 3) := by decide +kernel
theorem dX8_add_27 : decode cX8_add 27 = .ok (.aload_n 0, 1) := by decide +kernel
theorem dX8_add_28 : decode cX8_add 28 = .ok (.aload_n 0, 1) := by decide +kernel
theorem dX8_add_29 : decode cX8_add 29 = .ok (.getfield 25, 3) := by decide +kernel
theorem dX8_add_32 : decode cX8_add 32 = .ok (.iconst 1, 1) := by decide +kernel
theorem dX8_add_33 : decode cX8_add 33 = .ok (.isub, 1) := by decide +kernel
theorem dX8_add_34 : decode cX8_add 34 = .ok (.iload_n 1, 1) := by decide +kernel
theorem dX8_add_35 : decode cX8_add 35 = .ok (.invokevirtual 32, 3) := by decide +kernel
theorem dX8_add_38 : decode cX8_add 38 = .ok (.pop, 1) := by decide +kernel
theorem dX8_add_39 : decode cX8_add 39 = .ok (.return_, 1) := by decide +kernel
set_option maxRecDepth 20000 in
theorem ggX8_addHighFirst_X8_add : GoodIn wsX8_addHighFirst wsX8_add := goodIn_r _ [5, 6, 7, 8, 9, 10, 11, 4, 12, 13, 14, 15, 16, 17] (by decide +kernel) (by decide +kernel)
set_option maxRecDepth 20000 in
theorem gX8_addHighFirst_X8_add : GoodIn wsX8_addHighFirst (wsV RX8 36 RX8 yX8_add wsX8_add) := goodIn_app (goodIn_of _ (by decide +kernel)) ggX8_addHighFirst_X8_add
theorem dX8_addHighFirst_0 : decode cX8_addHighFirst 0 = .ok (.iload_n 3, 1) := by decide +kernel
theorem dX8_addHighFirst_1 : decode cX8_addHighFirst 1 = .ok (.iconst 1, 1) := by decide +kernel
theorem dX8_addHighFirst_2 : decode cX8_addHighFirst 2 = .ok (.isub, 1) := by decide +kernel
theorem dX8_addHighFirst_3 : decode cX8_addHighFirst 3 = .ok (.istore 4, 2) := by decide +kernel
theorem dX8_addHighFirst_5 : decode cX8_addHighFirst 5 = .ok (.iload 4, 2) := by decide +kernel
theorem dX8_addHighFirst_7 : decode cX8_addHighFirst 7 = .ok (.ifCond .lt 21, 3) := by decide +kernel
theorem dX8_addHighFirst_10 : decode cX8_addHighFirst 10 = .ok (.aload_n 0, 1) := by decide +kernel
theorem dX8_addHighFirst_11 : decode cX8_addHighFirst 11 = .ok (.lload_n 1, 1) := by decide +kernel
theorem dX8_addHighFirst_12 : decode cX8_addHighFirst 12 = .ok (.bipush 8, 2) := by decide +kernel
theorem dX8_addHighFirst_14 : decode cX8_addHighFirst 14 = .ok (.iload 4, 2) := by decide +kernel
theorem dX8_addHighFirst_16 : decode cX8_addHighFirst 16 = .ok (.imul, 1) := by decide +kernel
theorem dX8_addHighFirst_17 : decode cX8_addHighFirst 17 = .ok (.lushr, 1) := by decide +kernel
theorem dX8_addHighFirst_18 : decode cX8_addHighFirst 18 = .ok (.l2i, 1) := by decide +kernel
theorem dX8_addHighFirst_19 : decode cX8_addHighFirst 19 = .ok (.invokevirtual 36, 3) := by decide +kernel
theorem dX8_addHighFirst_22 : decode cX8_addHighFirst 22 = .ok (.iinc 4 (-1), 3) := by decide +kernel
theorem dX8_addHighFirst_25 : decode cX8_addHighFirst 25 = .ok (.goto (-20), 3) := by decide +kernel
theorem dX8_addHighFirst_28 : decode cX8_addHighFirst 28 = .ok (.return_, 1) := by decide +kernel
set_option maxRecDepth 20000 in
theorem ggX8_addLowFirst_X8_add : GoodIn wsX8_addLowFirst wsX8_add := goodIn_r _ [5, 6, 7, 8, 9, 10, 11, 4, 12, 13, 14, 15, 16, 17] (by decide +kernel) (by decide +kernel)
set_option maxRecDepth 20000 in
theorem gX8_addLowFirst_X8_add : GoodIn wsX8_addLowFirst (wsV RX8 36 RX8 yX8_add wsX8_add) := goodIn_app (goodIn_of _ (by decide +kernel)) ggX8_addLowFirst_X8_add
theorem dX8_addLowFirst_0 : decode cX8_addLowFirst 0 = .ok (.iconst 0, 1) := by decide +kernel
theorem dX8_addLowFirst_1 : decode cX8_addLowFirst 1 = .ok (.istore 4, 2) := by decide +kernel
theorem dX8_addLowFirst_3 : decode cX8_addLowFirst 3 = .ok (.iload 4, 2) := by decide +kernel
theorem dX8_addLowFirst_5 : decode cX8_addLowFirst 5 = .ok (.iload_n 3, 1) := by decide +kernel
theorem dX8_addLowFirst_6 : decode cX8_addLowFirst 6 = .ok (.if_icmp .ge 21, 3) := by decide +kernel
theorem dX8_addLowFirst_9 : decode cX8_addLowFirst 9 = .ok (.aload_n 0, 1) := by decide +kernel
theorem dX8_addLowFirst_10 : decode cX8_addLowFirst 10 = .ok (.lload_n 1, 1) := by decide +kernel
theorem dX8_addLowFirst_11 : decode cX8_addLowFirst 11 = .ok (.bipush 8, 2) := by decide +kernel
theorem dX8_addLowFirst_13 : decode cX8_addLowFirst 13 = .ok (.iload 4, 2) := by decide +kernel
theorem dX8_addLowFirst_15 : decode cX8_addLowFirst 15 = .ok (.imul, 1) := by decide +kernel
theorem dX8_addLowFirst_16 : decode cX8_addLowFirst 16 = .ok (.lushr, 1) := by decide +kernel
theorem dX8_addLowFirst_17 : decode cX8_addLowFirst 17 = .ok (.l2i, 1) := by decide +kernel
theorem dX8_addLowFirst_18 : decode cX8_addLowFirst 18 = .ok (.invokevirtual 36, 3) := by decide +kernel
theorem dX8_addLowFirst_21 : decode cX8_addLowFirst 21 = .ok (.iinc 4 1, 3) := by decide +kernel
theorem dX8_addLowFirst_24 : decode cX8_addLowFirst 24 = .ok (.goto (-21), 3) := by decide +kernel
theorem dX8_addLowFirst_27 : decode cX8_addLowFirst 27 = .ok (.return_, 1) := by decide +kernel
set_option maxRecDepth 20000 in
theorem ggX8_addEach_X8_add : GoodIn wsX8_addEach wsX8_add := goodIn_r _ [5, 6, 7, 8, 9, 10, 11, 4, 12, 13, 14, 15, 16, 17] (by decide +kernel) (by decide +kernel)
set_option maxRecDepth 20000 in
theorem gX8_addEach_X8_add : GoodIn wsX8_addEach (wsV RX8 36 RX8 yX8_add wsX8_add) := goodIn_app (goodIn_of _ (by decide +kernel)) ggX8_addEach_X8_add
theorem dX8_addEach_0 : decode cX8_addEach 0 = .ok (.iconst 0, 1) := by decide +kernel
theorem dX8_addEach_1 : decode cX8_addEach 1 = .ok (.istore_n 2, 1) := by decide +kernel
theorem dX8_addEach_2 : decode cX8_addEach 2 = .ok (.iload_n 2, 1) := by decide +kernel
theorem dX8_addEach_3 : decode cX8_addEach 3 = .ok (.aload_n 1, 1) := by decide +kernel
theorem dX8_addEach_4 : decode cX8_addEach 4 = .ok (.arraylength, 1) := by decide +kernel
theorem dX8_addEach_5 : decode cX8_addEach 5 = .ok (.if_icmp .ge 16, 3) := by decide +kernel
theorem dX8_addEach_8 : decode cX8_addEach 8 = .ok (.aload_n 0, 1) := by decide +kernel
theorem dX8_addEach_9 : decode cX8_addEach 9 = .ok (.aload_n 1, 1) := by decide +kernel
theorem dX8_addEach_10 : decode cX8_addEach 10 = .ok (.iload_n 2, 1) := by decide +kernel
theorem dX8_addEach_11 : decode cX8_addEach 11 = .ok (.iaload, 1) := by decide +kernel
theorem dX8_addEach_12 : decode cX8_addEach 12 = .ok (.invokevirtual 36, 3) := by decide +kernel
theorem dX8_addEach_15 : decode cX8_addEach 15 = .ok (.iinc 2 1, 3) := by decide +kernel
theorem dX8_addEach_18 : decode cX8_addEach 18 = .ok (.goto (-16), 3) := by decide +kernel
theorem dX8_addEach_21 : decode cX8_addEach 21 = .ok (.return_, 1) := by decide +kernel
set_option maxRecDepth 20000 in
theorem ggX8_addPart_X8_at : GoodIn wsX8_addPart wsX8_at := goodIn_r _ [5, 6, 7, 18, 19, 20, 21] (by decide +kernel) (by decide +kernel)
set_option maxRecDepth 20000 in
theorem gX8_addPart_X8_at : GoodIn wsX8_addPart (wsV RX8 40 RX8 yX8_at wsX8_at) := goodIn_app (goodIn_of _ (by decide +kernel)) ggX8_addPart_X8_at
set_option maxRecDepth 20000 in
theorem ggX8_addPart_X8_add : GoodIn wsX8_addPart wsX8_add := goodIn_r _ [11, 6, 12, 13, 14, 15, 16, 4, 17, 7, 18, 19, 20, 21] (by decide +kernel) (by decide +kernel)
set_option maxRecDepth 20000 in
theorem gX8_addPart_X8_add : GoodIn wsX8_addPart (wsV RX8 36 RX8 yX8_add wsX8_add) := goodIn_app (goodIn_of _ (by decide +kernel)) ggX8_addPart_X8_add
theorem dX8_addPart_0 : decode cX8_addPart 0 = .ok (.iconst 0, 1) := by decide +kernel
theorem dX8_addPart_1 : decode cX8_addPart 1 = .ok (.istore 4, 2) := by decide +kernel
theorem dX8_addPart_3 : decode cX8_addPart 3 = .ok (.iload 4, 2) := by decide +kernel
theorem dX8_addPart_5 : decode cX8_addPart 5 = .ok (.iload_n 3, 1) := by decide +kernel
theorem dX8_addPart_6 : decode cX8_addPart 6 = .ok (.if_icmp .ge 21, 3) := by decide +kernel
theorem dX8_addPart_9 : decode cX8_addPart 9 = .ok (.aload_n 0, 1) := by decide +kernel
theorem dX8_addPart_10 : decode cX8_addPart 10 = .ok (.aload_n 1, 1) := by decide +kernel
theorem dX8_addPart_11 : decode cX8_addPart 11 = .ok (.iload_n 2, 1) := by decide +kernel
theorem dX8_addPart_12 : decode cX8_addPart 12 = .ok (.iload 4, 2) := by decide +kernel
theorem dX8_addPart_14 : decode cX8_addPart 14 = .ok (.iadd, 1) := by decide +kernel
theorem dX8_addPart_15 : decode cX8_addPart 15 = .ok (.invokevirtual 40, 3) := by decide +kernel
theorem dX8_addPart_18 : decode cX8_addPart 18 = .ok (.invokevirtual 36, 3) := by decide +kernel
theorem dX8_addPart_21 : decode cX8_addPart 21 = .ok (.iinc 4 1, 3) := by decide +kernel
theorem dX8_addPart_24 : decode cX8_addPart 24 = .ok (.goto (-21), 3) := by decide +kernel
theorem dX8_addPart_27 : decode cX8_addPart 27 = .ok (.return_, 1) := by decide +kernel
theorem dX8_becomeLike_0 : decode cX8_becomeLike 0 = .ok (.aload_n 1, 1) := by decide +kernel
theorem dX8_becomeLike_1 : decode cX8_becomeLike 1 = .ok (.getfield 21, 3) := by decide +kernel
theorem dX8_becomeLike_4 : decode cX8_becomeLike 4 = .ok (.iconst 0, 1) := by decide +kernel
theorem dX8_becomeLike_5 : decode cX8_becomeLike 5 = .ok (.aload_n 0, 1) := by decide +kernel
theorem dX8_becomeLike_6 : decode cX8_becomeLike 6 = .ok (.getfield 21, 3) := by decide +kernel
theorem dX8_becomeLike_9 : decode cX8_becomeLike 9 = .ok (.iconst 0, 1) := by decide +kernel
theorem dX8_becomeLike_10 : decode cX8_becomeLike 10 = .ok (.aload_n 1, 1) := by decide +kernel
theorem dX8_becomeLike_11 : decode cX8_becomeLike 11 = .ok (.getfield 21, 3) := by decide +kernel
theorem dX8_becomeLike_14 : decode cX8_becomeLike 14 = .ok (.arraylength, 1) := by decide +kernel
theorem dX8_becomeLike_15 : decode cX8_becomeLike 15 = .ok (.aload_n 0, 1) := by decide +kernel
theorem dX8_becomeLike_16 : decode cX8_becomeLike 16 = .ok (.getfield 21, 3) := by decide +kernel
theorem dX8_becomeLike_19 : decode cX8_becomeLike 19 = .ok (.arraylength, 1) := by decide +kernel
theorem dX8_becomeLike_20 : decode cX8_becomeLike 20 = .ok (.invokestatic 44, 3) := by decide +kernel
theorem dX8_becomeLike_23 : decode cX8_becomeLike 23 = .ok (.invokestatic 47, 3) := by decide +kernel
theorem dX8_becomeLike_26 : decode cX8_becomeLike 26 = .ok (.aload_n 0, 1) := by decide +kernel
theorem dX8_becomeLike_27 : decode cX8_becomeLike 27 = .ok (.aload_n 1, 1) := by decide +kernel
theorem dX8_becomeLike_28 : decode cX8_becomeLike 28 = .ok (.getfield 25, 3) := by decide +kernel
theorem dX8_becomeLike_31 : decode cX8_becomeLike 31 = .ok (.aload_n 0, 1) := by decide +kernel
theorem dX8_becomeLike_32 : decode cX8_becomeLike 32 = .ok (.getfield 15, 3) := by decide +kernel
theorem dX8_becomeLike_35 : decode cX8_becomeLike 35 = .ok (.invokestatic 44, 3) := by decide +kernel
theorem dX8_becomeLike_38 : decode cX8_becomeLike 38 = .ok (.putfield 25, 3) := by decide +kernel
theorem dX8_becomeLike_41 : decode cX8_becomeLike 41 = .ok (.aload_n 0, 1) := by decide +kernel
theorem dX8_becomeLike_42 : decode cX8_becomeLike 42 = .ok (.aload_n 1, 1) := by decide +kernel
theorem dX8_becomeLike_43 : decode cX8_becomeLike 43 = .ok (.getfield 25, 3) := by decide +kernel
theorem dX8_becomeLike_46 : decode cX8_becomeLike 46 = .ok (.aload_n 0, 1) := by decide +kernel
theorem dX8_becomeLike_47 : decode cX8_becomeLike 47 = .ok (.getfield 15, 3) := by decide +kernel
theorem dX8_becomeLike_50 : decode cX8_becomeLike 50 = .ok (.if_icmp .le 7, 3) := by decide +kernel
theorem dX8_becomeLike_53 : decode cX8_becomeLike 53 = .ok (.iconst 1, 1) := by decide +kernel
theorem dX8_becomeLike_54 : decode cX8_becomeLike 54 = .ok (.goto 4, 3) := by decide +kernel
theorem dX8_becomeLike_57 : decode cX8_becomeLike 57 = .ok (.iconst 0, 1) := by decide +kernel
theorem dX8_becomeLike_58 : decode cX8_becomeLike 58 = .ok (.putfield 28, 3) := by decide +kernel
theorem dX8_becomeLike_61 : decode cX8_becomeLike 61 = .ok (.return_, 1) := by decide +kernel
set_option maxRecDepth 20000 in
theorem ggX8_highFirst_X8_at : GoodIn wsX8_highFirst wsX8_at := goodIn_r _ [5, 6, 7, 8, 9, 10, 11] (by decide +kernel) (by decide +kernel)
set_option maxRecDepth 20000 in
theorem gX8_highFirst_X8_at : GoodIn wsX8_highFirst (wsV RX8 40 RX8 yX8_at wsX8_at) := goodIn_app (goodIn_of _ (by decide +kernel)) ggX8_highFirst_X8_at
theorem dX8_highFirst_0 : decode cX8_highFirst 0 = .ok (.lconst 0, 1) := by decide +kernel
theorem dX8_highFirst_1 : decode cX8_highFirst 1 = .ok (.lstore_n 3, 1) := by decide +kernel
theorem dX8_highFirst_2 : decode cX8_highFirst 2 = .ok (.iconst 0, 1) := by decide +kernel
theorem dX8_highFirst_3 : decode cX8_highFirst 3 = .ok (.istore 5, 2) := by decide +kernel
theorem dX8_highFirst_5 : decode cX8_highFirst 5 = .ok (.iload 5, 2) := by decide +kernel
theorem dX8_highFirst_7 : decode cX8_highFirst 7 = .ok (.iload_n 2, 1) := by decide +kernel
theorem dX8_highFirst_8 : decode cX8_highFirst 8 = .ok (.if_icmp .ge 28, 3) := by decide +kernel
theorem dX8_highFirst_11 : decode cX8_highFirst 11 = .ok (.lload_n 3, 1) := by decide +kernel
theorem dX8_highFirst_12 : decode cX8_highFirst 12 = .ok (.bipush 8, 2) := by decide +kernel
theorem dX8_highFirst_14 : decode cX8_highFirst 14 = .ok (.lshl, 1) := by decide +kernel
theorem dX8_highFirst_15 : decode cX8_highFirst 15 = .ok (.aload_n 0, 1) := by decide +kernel
theorem dX8_highFirst_16 : decode cX8_highFirst 16 = .ok (.iload_n 1, 1) := by decide +kernel
theorem dX8_highFirst_17 : decode cX8_highFirst 17 = .ok (.iload 5, 2) := by decide +kernel
theorem dX8_highFirst_19 : decode cX8_highFirst 19 = .ok (.iadd, 1) := by decide +kernel
theorem dX8_highFirst_20 : decode cX8_highFirst 20 = .ok (.invokevirtual 40, 3) := by decide +kernel
theorem dX8_highFirst_23 : decode cX8_highFirst 23 = .ok (.sipush 255, 3) := by decide +kernel
theorem dX8_highFirst_26 : decode cX8_highFirst 26 = .ok (.iand, 1) := by decide +kernel
theorem dX8_highFirst_27 : decode cX8_highFirst 27 = .ok (.i2l, 1) := by decide +kernel
theorem dX8_highFirst_28 : decode cX8_highFirst 28 = .ok (.lor, 1) := by decide +kernel
theorem dX8_highFirst_29 : decode cX8_highFirst 29 = .ok (.lstore_n 3, 1) := by decide +kernel
theorem dX8_highFirst_30 : decode cX8_highFirst 30 = .ok (.iinc 5 1, 3) := by decide +kernel
theorem dX8_highFirst_33 : decode cX8_highFirst 33 = .ok (.goto (-28), 3) := by decide +kernel
theorem dX8_highFirst_36 : decode cX8_highFirst 36 = .ok (.lload_n 3, 1) := by decide +kernel
theorem dX8_highFirst_37 : decode cX8_highFirst 37 = .ok (.lreturn, 1) := by decide +kernel
set_option maxRecDepth 20000 in
theorem ggX8_lowFirst_X8_at : GoodIn wsX8_lowFirst wsX8_at := goodIn_r _ [5, 6, 7, 8, 9, 10, 11] (by decide +kernel) (by decide +kernel)
set_option maxRecDepth 20000 in
theorem gX8_lowFirst_X8_at : GoodIn wsX8_lowFirst (wsV RX8 40 RX8 yX8_at wsX8_at) := goodIn_app (goodIn_of _ (by decide +kernel)) ggX8_lowFirst_X8_at
theorem dX8_lowFirst_0 : decode cX8_lowFirst 0 = .ok (.lconst 0, 1) := by decide +kernel
theorem dX8_lowFirst_1 : decode cX8_lowFirst 1 = .ok (.lstore_n 3, 1) := by decide +kernel
theorem dX8_lowFirst_2 : decode cX8_lowFirst 2 = .ok (.iload_n 2, 1) := by decide +kernel
theorem dX8_lowFirst_3 : decode cX8_lowFirst 3 = .ok (.iconst 1, 1) := by decide +kernel
theorem dX8_lowFirst_4 : decode cX8_lowFirst 4 = .ok (.isub, 1) := by decide +kernel
theorem dX8_lowFirst_5 : decode cX8_lowFirst 5 = .ok (.istore 5, 2) := by decide +kernel
theorem dX8_lowFirst_7 : decode cX8_lowFirst 7 = .ok (.iload 5, 2) := by decide +kernel
theorem dX8_lowFirst_9 : decode cX8_lowFirst 9 = .ok (.ifCond .lt 28, 3) := by decide +kernel
theorem dX8_lowFirst_12 : decode cX8_lowFirst 12 = .ok (.lload_n 3, 1) := by decide +kernel
theorem dX8_lowFirst_13 : decode cX8_lowFirst 13 = .ok (.bipush 8, 2) := by decide +kernel
theorem dX8_lowFirst_15 : decode cX8_lowFirst 15 = .ok (.lshl, 1) := by decide +kernel
theorem dX8_lowFirst_16 : decode cX8_lowFirst 16 = .ok (.aload_n 0, 1) := by decide +kernel
theorem dX8_lowFirst_17 : decode cX8_lowFirst 17 = .ok (.iload_n 1, 1) := by decide +kernel
theorem dX8_lowFirst_18 : decode cX8_lowFirst 18 = .ok (.iload 5, 2) := by decide +kernel
theorem dX8_lowFirst_20 : decode cX8_lowFirst 20 = .ok (.iadd, 1) := by decide +kernel
theorem dX8_lowFirst_21 : decode cX8_lowFirst 21 = .ok (.invokevirtual 40, 3) := by decide +kernel
theorem dX8_lowFirst_24 : decode cX8_lowFirst 24 = .ok (.sipush 255, 3) := by decide +kernel
theorem dX8_lowFirst_27 : decode cX8_lowFirst 27 = .ok (.iand, 1) := by decide +kernel
theorem dX8_lowFirst_28 : decode cX8_lowFirst 28 = .ok (.i2l, 1) := by decide +kernel
theorem dX8_lowFirst_29 : decode cX8_lowFirst 29 = .ok (.lor, 1) := by decide +kernel
theorem dX8_lowFirst_30 : decode cX8_lowFirst 30 = .ok (.lstore_n 3, 1) := by decide +kernel
theorem dX8_lowFirst_31 : decode cX8_lowFirst 31 = .ok (.iinc 5 (-1), 3) := by decide +kernel
theorem dX8_lowFirst_34 : decode cX8_lowFirst 34 = .ok (.goto (-27), 3) := by decide +kernel
theorem dX8_lowFirst_37 : decode cX8_lowFirst 37 = .ok (.lload_n 3, 1) := by decide +kernel
theorem dX8_lowFirst_38 : decode cX8_lowFirst 38 = .ok (.lreturn, 1) := by decide +kernel
set_option maxRecDepth 20000 in
theorem ggX9_init_X8_init : GoodIn wsX9_init wsX8_init := goodIn_r _ [35, 36, 2, 3, 37, 38, 39, 40, 41, 42, 43, 78, 79, 80, 81] (by decide +kernel) (by decide +kernel)
set_option maxRecDepth 20000 in
theorem gX9_init_X8_init : GoodIn wsX9_init (wsX8_init) := ggX9_init_X8_init
set_option maxRecDepth 20000 in
theorem ggX9_init_X4_init : GoodIn wsX9_init wsX4_init := goodIn_r _ [45, 46, 2, 3, 47, 5, 6, 48, 42, 49, 50, 51, 52, 34, 35, 36, 37, 38, 39, 40, 41, 43, 78, 79, 80, 81, 96, 97, 98, 99] (by decide +kernel) (by decide +kernel)
set_option maxRecDepth 20000 in
theorem gX9_init_X4_init_n26 : GoodIn wsX9_init (wsX4_init) := ggX9_init_X4_init
set_option maxRecDepth 20000 in
theorem ggX9_init_X7_init : GoodIn wsX9_init wsX7_init := goodIn_r _ [54, 55, 2, 3, 42, 56, 100, 101, 102, 103, 104, 105, 106, 107, 108, 109] (by decide +kernel) (by decide +kernel)
set_option maxRecDepth 20000 in
theorem gX9_init_X7_init_n36 : GoodIn wsX9_init (wsX7_init) := ggX9_init_X7_init
set_option maxRecDepth 20000 in
theorem ggX9_init_X6_init : GoodIn wsX9_init wsX6_init := goodIn_r _ [58, 59, 2, 3] (by decide +kernel) (by decide +kernel)
set_option maxRecDepth 20000 in
theorem gX9_init_X6_init_n43 : GoodIn wsX9_init (wsX6_init) := ggX9_init_X6_init
set_option maxRecDepth 20000 in
theorem ggX9_init_X2_init : GoodIn wsX9_init wsX2_init := goodIn_r _ [61, 62, 2, 3, 63, 5, 6, 64, 65, 34, 35, 36, 37, 38, 39, 40, 41, 42, 43, 78, 79, 80, 81, 120, 121, 122, 123, 124, 125] (by decide +kernel) (by decide +kernel)
set_option maxRecDepth 20000 in
theorem gX9_init_X2_init_n50 : GoodIn wsX9_init (wsX2_init) := ggX9_init_X2_init
set_option maxRecDepth 20000 in
theorem ggX9_init_X1_init : GoodIn wsX9_init wsX1_init := goodIn_r _ [68, 69, 2, 3, 42, 70, 71, 72, 73, 74, 75, 76, 77, 126, 127, 128, 129, 130, 131, 132, 133, 134, 135, 136, 137, 138, 139, 140, 141, 142, 143] (by decide +kernel) (by decide +kernel)
set_option maxRecDepth 20000 in
theorem gX9_init_X1_init : GoodIn wsX9_init (wsX1_init) := ggX9_init_X1_init
theorem dX9_init_0 : decode cX9_init 0 = .ok (.aload_n 0, 1) := by decide +kernel
theorem dX9_init_1 : decode cX9_init 1 = .ok (.invokespecial 1, 3) := by decide +kernel
theorem dX9_init_4 : decode cX9_init 4 = .ok (.aload_n 0, 1) := by decide +kernel
theorem dX9_init_5 : decode cX9_init 5 = .ok (.new 7, 3) := by decide +kernel
theorem dX9_init_8 : decode cX9_init 8 = .ok (.dup, 1) := by decide +kernel
theorem dX9_init_9 : decode cX9_init 9 = .ok (.sipush 6000, 3) := by decide +kernel
theorem dX9_init_12 : decode cX9_init 12 = .ok (.invokespecial 11, 3) := by decide +kernel
theorem dX9_init_15 : decode cX9_init 15 = .ok (.putfield 14, 3) := by decide +kernel
theorem dX9_init_18 : decode cX9_init 18 = .ok (.aload_n 0, 1) := by decide +kernel
theorem dX9_init_19 : decode cX9_init 19 = .ok (.new 7, 3) := by decide +kernel
theorem dX9_init_22 : decode cX9_init 22 = .ok (.dup, 1) := by decide +kernel
theorem dX9_init_23 : decode cX9_init 23 = .ok (.sipush 6000, 3) := by decide +kernel
theorem dX9_init_26 : decode cX9_init 26 = .ok (.invokespecial 11, 3) := by decide +kernel
theorem dX9_init_29 : decode cX9_init 29 = .ok (.putfield 18, 3) := by decide +kernel
theorem dX9_init_32 : decode cX9_init 32 = .ok (.aload_n 0, 1) := by decide +kernel
theorem dX9_init_33 : decode cX9_init 33 = .ok (.new 7, 3) := by decide +kernel
theorem dX9_init_36 : decode cX9_init 36 = .ok (.dup, 1) := by decide +kernel
theorem dX9_init_37 : decode cX9_init 37 = .ok (.sipush 6000, 3) := by decide +kernel
theorem dX9_init_40 : decode cX9_init 40 = .ok (.invokespecial 11, 3) := by decide +kernel
theorem dX9_init_43 : decode cX9_init 43 = .ok (.putfield 21, 3) := by decide +kernel
theorem dX9_init_46 : decode cX9_init 46 = .ok (.aload_n 0, 1) := by decide +kernel
theorem dX9_init_47 : decode cX9_init 47 = .ok (.new 24, 3) := by decide +kernel
theorem dX9_init_50 : decode cX9_init 50 = .ok (.dup, 1) := by decide +kernel
theorem dX9_init_51 : decode cX9_init 51 = .ok (.invokespecial 26, 3) := by decide +kernel
theorem dX9_init_54 : decode cX9_init 54 = .ok (.putfield 27, 3) := by decide +kernel
theorem dX9_init_57 : decode cX9_init 57 = .ok (.aload_n 0, 1) := by decide +kernel
theorem dX9_init_58 : decode cX9_init 58 = .ok (.new 24, 3) := by decide +kernel
theorem dX9_init_61 : decode cX9_init 61 = .ok (.dup, 1) := by decide +kernel
theorem dX9_init_62 : decode cX9_init 62 = .ok (.invokespecial 26, 3) := by decide +kernel
theorem dX9_init_65 : decode cX9_init 65 = .ok (.putfield 31, 3) := by decide +kernel
theorem dX9_init_68 : decode cX9_init 68 = .ok (.aload_n 0, 1) := by decide +kernel
theorem dX9_init_69 : decode cX9_init 69 = .ok (.new 34, 3) := by decide +kernel
theorem dX9_init_72 : decode cX9_init 72 = .ok (.dup, 1) := by decide +kernel
theorem dX9_init_73 : decode cX9_init 73 = .ok (.invokespecial 36, 3) := by decide +kernel
theorem dX9_init_76 : decode cX9_init 76 = .ok (.putfield 37, 3) := by decide +kernel
theorem dX9_init_79 : decode cX9_init 79 = .ok (.aload_n 0, 1) := by decide +kernel
theorem dX9_init_80 : decode cX9_init 80 = .ok (.new 41, 3) := by decide +kernel
theorem dX9_init_83 : decode cX9_init 83 = .ok (.dup, 1) := by decide +kernel
theorem dX9_init_84 : decode cX9_init 84 = .ok (.invokespecial 43, 3) := by decide +kernel
theorem dX9_init_87 : decode cX9_init 87 = .ok (.putfield 44, 3) := by decide +kernel
theorem dX9_init_90 : decode cX9_init 90 = .ok (.aload_n 0, 1) := by decide +kernel
theorem dX9_init_91 : decode cX9_init 91 = .ok (.new 48, 3) := by decide +kernel
theorem dX9_init_94 : decode cX9_init 94 = .ok (.dup, 1) := by decide +kernel
theorem dX9_init_95 : decode cX9_init 95 = .ok (.invokespecial 50, 3) := by decide +kernel
theorem dX9_init_98 : decode cX9_init 98 = .ok (.putfield 51, 3) := by decide +kernel
theorem dX9_init_101 : decode cX9_init 101 = .ok (.aload_n 0, 1) := by decide +kernel
theorem dX9_init_102 : decode cX9_init 102 = .ok (.new 55, 3) := by decide +kernel
theorem dX9_init_105 : decode cX9_init 105 = .ok (.dup, 1) := by decide +kernel
theorem dX9_init_106 : decode cX9_init 106 = .ok (.invokespecial 57, 3) := by decide +kernel
theorem dX9_init_109 : decode cX9_init 109 = .ok (.putfield 58, 3) := by decide +kernel
theorem dX9_init_112 : decode cX9_init 112 = .ok (.aload_n 0, 1) := by decide +kernel
theorem dX9_init_113 : decode cX9_init 113 = .ok (.iconst 0, 1) := by decide +kernel
theorem dX9_init_114 : decode cX9_init 114 = .ok (.putfield 62, 3) := by decide +kernel
theorem dX9_init_117 : decode cX9_init 117 = .ok (.aload_n 0, 1) := by decide +kernel
theorem dX9_init_118 : decode cX9_init 118 = .ok (.iconst (-1), 1) := by decide +kernel
theorem dX9_init_119 : decode cX9_init 119 = .ok (.putfield 66, 3) := by decide +kernel
theorem dX9_init_122 : decode cX9_init 122 = .ok (.return_, 1) := by decide +kernel
set_option maxRecDepth 20000 in
theorem ggX9_feed_X8_addHighFirst : GoodIn wsX9_feed wsX8_addHighFirst := goodIn_r _ [7, 8, 9, 10, 6, 11, 12, 13, 14, 15, 16, 17, 18, 19, 34, 35, 36, 37] (by decide +kernel) (by decide +kernel)
set_option maxRecDepth 20000 in
theorem gX9_feed_X8_addHighFirst : GoodIn wsX9_feed (wsV RX9 72 RX8 yX8_addHighFirst wsX8_addHighFirst) := goodIn_app (goodIn_of _ (by decide +kernel)) ggX9_feed_X8_addHighFirst
theorem dX9_feed_0 : decode cX9_feed 0 = .ok (.aload_n 0, 1) := by decide +kernel
theorem dX9_feed_1 : decode cX9_feed 1 = .ok (.getfield 14, 3) := by decide +kernel
theorem dX9_feed_4 : decode cX9_feed 4 = .ok (.getfield 69, 3) := by decide +kernel
theorem dX9_feed_7 : decode cX9_feed 7 = .ok (.sipush 5980, 3) := by decide +kernel
theorem dX9_feed_10 : decode cX9_feed 10 = .ok (.if_icmp .le 5, 3) := by decide +kernel
theorem dX9_feed_13 : decode cX9_feed 13 = .ok (.iconst (-1), 1) := by decide +kernel
theorem dX9_feed_14 : decode cX9_feed 14 = .ok (.ireturn, 1) := by decide +kernel
theorem dX9_feed_15 : decode cX9_feed 15 = .ok (.aload_n 0, 1) := by decide +kernel
theorem dX9_feed_16 : decode cX9_feed 16 = .ok (.getfield 14, 3) := by decide +kernel
theorem dX9_feed_19 : decode cX9_feed 19 = .ok (.iload_n 1, 1) := by decide +kernel
theorem dX9_feed_20 : decode cX9_feed 20 = .ok (.i2l, 1) := by decide +kernel
theorem dX9_feed_21 : decode cX9_feed 21 = .ok (.iconst 4, 1) := by decide +kernel
theorem dX9_feed_22 : decode cX9_feed 22 = .ok (.invokevirtual 72, 3) := by decide +kernel
theorem dX9_feed_25 : decode cX9_feed 25 = .ok (.aload_n 0, 1) := by decide +kernel
theorem dX9_feed_26 : decode cX9_feed 26 = .ok (.getfield 14, 3) := by decide +kernel
theorem dX9_feed_29 : decode cX9_feed 29 = .ok (.iload_n 2, 1) := by decide +kernel
theorem dX9_feed_30 : decode cX9_feed 30 = .ok (.i2l, 1) := by decide +kernel
theorem dX9_feed_31 : decode cX9_feed 31 = .ok (.iconst 4, 1) := by decide +kernel
theorem dX9_feed_32 : decode cX9_feed 32 = .ok (.invokevirtual 72, 3) := by decide +kernel
theorem dX9_feed_35 : decode cX9_feed 35 = .ok (.aload_n 0, 1) := by decide +kernel
theorem dX9_feed_36 : decode cX9_feed 36 = .ok (.getfield 14, 3) := by decide +kernel
theorem dX9_feed_39 : decode cX9_feed 39 = .ok (.iload_n 3, 1) := by decide +kernel
theorem dX9_feed_40 : decode cX9_feed 40 = .ok (.i2l, 1) := by decide +kernel
theorem dX9_feed_41 : decode cX9_feed 41 = .ok (.iconst 4, 1) := by decide +kernel
theorem dX9_feed_42 : decode cX9_feed 42 = .ok (.invokevirtual 72, 3) := by decide +kernel
theorem dX9_feed_45 : decode cX9_feed 45 = .ok (.aload_n 0, 1) := by decide +kernel
theorem dX9_feed_46 : decode cX9_feed 46 = .ok (.getfield 14, 3) := by decide +kernel
theorem dX9_feed_49 : decode cX9_feed 49 = .ok (.iload 4, 2) := by decide +kernel
theorem dX9_feed_51 : decode cX9_feed 51 = .ok (.i2l, 1) := by decide +kernel
theorem dX9_feed_52 : decode cX9_feed 52 = .ok (.iconst 4, 1) := by decide +kernel
theorem dX9_feed_53 : decode cX9_feed 53 = .ok (.invokevirtual 72, 3) := by decide +kernel
theorem dX9_feed_56 : decode cX9_feed 56 = .ok (.aload_n 0, 1) := by decide +kernel
theorem dX9_feed_57 : decode cX9_feed 57 = .ok (.getfield 14, 3) := by decide +kernel
theorem dX9_feed_60 : decode cX9_feed 60 = .ok (.iload 5, 2) := by decide +kernel
theorem dX9_feed_62 : decode cX9_feed 62 = .ok (.i2l, 1) := by decide +kernel
theorem dX9_feed_63 : decode cX9_feed 63 = .ok (.iconst 4, 1) := by decide +kernel
theorem dX9_feed_64 : decode cX9_feed 64 = .ok (.invokevirtual 72, 3) := by decide +kernel
theorem dX9_feed_67 : decode cX9_feed 67 = .ok (.aload_n 0, 1) := by decide +kernel
theorem dX9_feed_68 : decode cX9_feed 68 = .ok (.getfield 14, 3) := by decide +kernel
theorem dX9_feed_71 : decode cX9_feed 71 = .ok (.getfield 69, 3) := by decide +kernel
theorem dX9_feed_74 : decode cX9_feed 74 = .ok (.ireturn, 1) := by decide +kernel
set_option maxRecDepth 20000 in
theorem ggX9_packet_X9_isOnTape : GoodIn wsX9_packet wsX9_isOnTape := goodIn_r _ [11, 5, 12, 52, 53, 54, 55, 56, 57, 58, 59, 60, 61, 62, 63, 64, 65, 70, 71, 72, 73] (by decide +kernel) (by decide +kernel)
set_option maxRecDepth 20000 in
theorem gX9_packet_X9_isOnTape : GoodIn wsX9_packet (wsV RX9 76 RX9 yX9_isOnTape wsX9_isOnTape) := goodIn_app (goodIn_of _ (by decide +kernel)) ggX9_packet_X9_isOnTape
set_option maxRecDepth 20000 in
theorem ggX9_packet_X4_hasRoom : GoodIn wsX9_packet wsX4_hasRoom := goodIn_r _ [17, 18, 19, 20, 66, 67, 68, 69, 70, 71, 72, 73] (by decide +kernel) (by decide +kernel)
set_option maxRecDepth 20000 in
theorem gX9_packet_X4_hasRoom : GoodIn wsX9_packet (wsV RX9 84 RX4 yX4_hasRoom wsX4_hasRoom) := goodIn_app (goodIn_of _ (by decide +kernel)) ggX9_packet_X4_hasRoom
set_option maxRecDepth 20000 in
theorem ggX9_packet_X8_addPart : GoodIn wsX9_packet wsX8_addPart := goodIn_r _ [25, 26, 27, 28, 24, 29, 30, 31, 32, 33, 34, 35, 36, 37, 38, 39, 40, 41, 70, 71, 72, 73] (by decide +kernel) (by decide +kernel)
set_option maxRecDepth 20000 in
theorem gX9_packet_X8_addPart : GoodIn wsX9_packet (wsV RX9 91 RX8 yX8_addPart wsX8_addPart) := goodIn_app (goodIn_of _ (by decide +kernel)) ggX9_packet_X8_addPart
set_option maxRecDepth 20000 in
theorem ggX9_packet_X4_endPacket : GoodIn wsX9_packet wsX4_endPacket := goodIn_r _ [45, 18, 46, 19, 20, 47, 66, 67, 68, 69, 70, 71, 72, 73] (by decide +kernel) (by decide +kernel)
set_option maxRecDepth 20000 in
theorem gX9_packet_X4_endPacket : GoodIn wsX9_packet (wsV RX9 95 RX4 yX4_endPacket wsX4_endPacket) := goodIn_app (goodIn_of _ (by decide +kernel)) ggX9_packet_X4_endPacket
set_option maxRecDepth 20000 in
theorem ggX9_packet_X8_empty : GoodIn wsX9_packet wsX8_empty := goodIn_r _ [51, 30, 37, 70, 71, 72, 73] (by decide +kernel) (by decide +kernel)
set_option maxRecDepth 20000 in
theorem gX9_packet_X8_empty : GoodIn wsX9_packet (wsV RX9 99 RX8 yX8_empty wsX8_empty) := goodIn_app (goodIn_of _ (by decide +kernel)) ggX9_packet_X8_empty
theorem dX9_packet_0 : decode cX9_packet 0 = .ok (.aload_n 0, 1) := by decide +kernel
theorem dX9_packet_1 : decode cX9_packet 1 = .ok (.iload_n 1, 1) := by decide +kernel
theorem dX9_packet_2 : decode cX9_packet 2 = .ok (.invokevirtual 76, 3) := by decide +kernel
theorem dX9_packet_5 : decode cX9_packet 5 = .ok (.ifCond .eq 19, 3) := by decide +kernel
theorem dX9_packet_8 : decode cX9_packet 8 = .ok (.lload_n 2, 1) := by decide +kernel
theorem dX9_packet_9 : decode cX9_packet 9 = .ok (.ldc2_w 80, 3) := by decide +kernel
theorem dX9_packet_12 : decode cX9_packet 12 = .ok (.lcmp, 1) := by decide +kernel
theorem dX9_packet_13 : decode cX9_packet 13 = .ok (.ifCond .lt 11, 3) := by decide +kernel
theorem dX9_packet_16 : decode cX9_packet 16 = .ok (.lload_n 2, 1) := by decide +kernel
theorem dX9_packet_17 : decode cX9_packet 17 = .ok (.ldc2_w 82, 3) := by decide +kernel
theorem dX9_packet_20 : decode cX9_packet 20 = .ok (.lcmp, 1) := by decide +kernel
theorem dX9_packet_21 : decode cX9_packet 21 = .ok (.ifCond .le 6, 3) := by decide +kernel
theorem dX9_packet_24 : decode cX9_packet 24 = .ok (.bipush (-2), 2) := by decide +kernel
theorem dX9_packet_26 : decode cX9_packet 26 = .ok (.ireturn, 1) := by decide +kernel
theorem dX9_packet_27 : decode cX9_packet 27 = .ok (.aload_n 0, 1) := by decide +kernel
theorem dX9_packet_28 : decode cX9_packet 28 = .ok (.getfield 27, 3) := by decide +kernel
theorem dX9_packet_31 : decode cX9_packet 31 = .ok (.iconst 1, 1) := by decide +kernel
theorem dX9_packet_32 : decode cX9_packet 32 = .ok (.iload_n 1, 1) := by decide +kernel
theorem dX9_packet_33 : decode cX9_packet 33 = .ok (.invokevirtual 84, 3) := by decide +kernel
theorem dX9_packet_36 : decode cX9_packet 36 = .ok (.istore 4, 2) := by decide +kernel
theorem dX9_packet_38 : decode cX9_packet 38 = .ok (.iload 4, 2) := by decide +kernel
theorem dX9_packet_40 : decode cX9_packet 40 = .ok (.ifCond .eq 27, 3) := by decide +kernel
theorem dX9_packet_43 : decode cX9_packet 43 = .ok (.aload_n 0, 1) := by decide +kernel
theorem dX9_packet_44 : decode cX9_packet 44 = .ok (.getfield 27, 3) := by decide +kernel
theorem dX9_packet_47 : decode cX9_packet 47 = .ok (.getfield 88, 3) := by decide +kernel
theorem dX9_packet_50 : decode cX9_packet 50 = .ok (.aload_n 0, 1) := by decide +kernel
theorem dX9_packet_51 : decode cX9_packet 51 = .ok (.getfield 14, 3) := by decide +kernel
theorem dX9_packet_54 : decode cX9_packet 54 = .ok (.iconst 0, 1) := by decide +kernel
theorem dX9_packet_55 : decode cX9_packet 55 = .ok (.iload_n 1, 1) := by decide +kernel
theorem dX9_packet_56 : decode cX9_packet 56 = .ok (.invokevirtual 91, 3) := by decide +kernel
theorem dX9_packet_59 : decode cX9_packet 59 = .ok (.aload_n 0, 1) := by decide +kernel
theorem dX9_packet_60 : decode cX9_packet 60 = .ok (.getfield 27, 3) := by decide +kernel
theorem dX9_packet_63 : decode cX9_packet 63 = .ok (.lload_n 2, 1) := by decide +kernel
theorem dX9_packet_64 : decode cX9_packet 64 = .ok (.invokevirtual 95, 3) := by decide +kernel
theorem dX9_packet_67 : decode cX9_packet 67 = .ok (.aload_n 0, 1) := by decide +kernel
theorem dX9_packet_68 : decode cX9_packet 68 = .ok (.getfield 14, 3) := by decide +kernel
theorem dX9_packet_71 : decode cX9_packet 71 = .ok (.invokevirtual 99, 3) := by decide +kernel
theorem dX9_packet_74 : decode cX9_packet 74 = .ok (.iload 4, 2) := by decide +kernel
theorem dX9_packet_76 : decode cX9_packet 76 = .ok (.ifCond .eq 13, 3) := by decide +kernel
theorem dX9_packet_79 : decode cX9_packet 79 = .ok (.aload_n 0, 1) := by decide +kernel
theorem dX9_packet_80 : decode cX9_packet 80 = .ok (.getfield 27, 3) := by decide +kernel
theorem dX9_packet_83 : decode cX9_packet 83 = .ok (.getfield 102, 3) := by decide +kernel
theorem dX9_packet_86 : decode cX9_packet 86 = .ok (.goto 4, 3) := by decide +kernel
theorem dX9_packet_89 : decode cX9_packet 89 = .ok (.iconst (-1), 1) := by decide +kernel
theorem dX9_packet_90 : decode cX9_packet 90 = .ok (.ireturn, 1) := by decide +kernel
set_option maxRecDepth 20000 in
theorem ggX9_clear_X4_empty : GoodIn wsX9_clear wsX4_empty := goodIn_r _ [7, 8, 9, 10, 11, 12, 13, 14, 15, 16, 31, 32, 33, 34, 35, 36, 37, 38] (by decide +kernel) (by decide +kernel)
set_option maxRecDepth 20000 in
theorem gX9_clear_X4_empty : GoodIn wsX9_clear (wsV RX9 105 RX4 yX4_empty wsX4_empty) := goodIn_app (goodIn_of _ (by decide +kernel)) ggX9_clear_X4_empty
theorem dX9_clear_0 : decode cX9_clear 0 = .ok (.aload_n 0, 1) := by decide +kernel
theorem dX9_clear_1 : decode cX9_clear 1 = .ok (.getfield 27, 3) := by decide +kernel
theorem dX9_clear_4 : decode cX9_clear 4 = .ok (.getfield 102, 3) := by decide +kernel
theorem dX9_clear_7 : decode cX9_clear 7 = .ok (.istore_n 1, 1) := by decide +kernel
theorem dX9_clear_8 : decode cX9_clear 8 = .ok (.aload_n 0, 1) := by decide +kernel
theorem dX9_clear_9 : decode cX9_clear 9 = .ok (.getfield 27, 3) := by decide +kernel
theorem dX9_clear_12 : decode cX9_clear 12 = .ok (.invokevirtual 105, 3) := by decide +kernel
theorem dX9_clear_15 : decode cX9_clear 15 = .ok (.iload_n 1, 1) := by decide +kernel
theorem dX9_clear_16 : decode cX9_clear 16 = .ok (.ireturn, 1) := by decide +kernel
set_option maxRecDepth 20000 in
theorem ggX9_pages_X4_isInOrderOfTime : GoodIn wsX9_pages wsX4_isInOrderOfTime := goodIn_r _ [9, 10, 11, 12, 13, 14, 15, 16, 17, 18, 8, 19, 20, 21, 22, 23, 24, 140, 141, 142, 143] (by decide +kernel) (by decide +kernel)
set_option maxRecDepth 20000 in
theorem gX9_pages_X4_isInOrderOfTime : GoodIn wsX9_pages (wsV RX9 108 RX4 yX4_isInOrderOfTime wsX4_isInOrderOfTime) := goodIn_app (goodIn_of _ (by decide +kernel)) ggX9_pages_X4_isInOrderOfTime
set_option maxRecDepth 20000 in
theorem ggX9_pages_X8_empty : GoodIn wsX9_pages wsX8_empty := goodIn_r _ [29, 30, 31, 144, 145, 146, 147] (by decide +kernel) (by decide +kernel)
set_option maxRecDepth 20000 in
theorem gX9_pages_X8_empty : GoodIn wsX9_pages (wsV RX9 99 RX8 yX8_empty wsX8_empty) := goodIn_app (goodIn_of _ (by decide +kernel)) ggX9_pages_X8_empty
set_option maxRecDepth 20000 in
theorem ggX9_pages_X7_write : GoodIn wsX9_pages wsX7_write := goodIn_r _ [36, 37, 38, 39, 40, 41, 42, 43, 44, 45, 46, 47, 48, 49, 35, 50, 51, 52, 53, 8, 54, 55, 21, 22, 23, 24, 11, 56, 57, 58, 59, 60, 61, 62, 63, 64, 65, 66, 67, 68, 69, 70, 71, 72, 73, 74, 75, 76, 77, 78, 79, 28, 80, 81, 82, 83, 84, 30, 85, 31, 86, 87, 88, 89, 90, 91, 92, 93, 94, 95, 10, 16, 17, 18, 19, 20, 96, 97, 98, 99, 100, 101, 102, 103, 104, 105, 106, 107, 108, 109, 110, 111, 112, 113, 114, 115, 116, 117, 148, 149, 150, 151, 152, 153, 154, 155, 156, 157, 140, 141, 142, 143, 144, 145, 146, 147] (by decide +kernel) (by decide +kernel)
set_option maxRecDepth 20000 in
theorem gX9_pages_X7_write : GoodIn wsX9_pages (wsV RX9 112 RX7 yX7_write wsX7_write) := goodIn_app (goodIn_of _ (by decide +kernel)) ggX9_pages_X7_write
set_option maxRecDepth 20000 in
theorem ggX9_pages_X9_takeSpareRow : GoodIn wsX9_pages wsX9_takeSpareRow := goodIn_r _ [122, 3, 123, 124, 125, 126, 127, 128, 129, 130, 131, 132, 133, 134, 135, 136, 137, 138, 139, 144, 145, 146, 147] (by decide +kernel) (by decide +kernel)
set_option maxRecDepth 20000 in
theorem gX9_pages_X9_takeSpareRow : GoodIn wsX9_pages (wsV RX9 116 RX9 yX9_takeSpareRow wsX9_takeSpareRow) := goodIn_app (goodIn_of _ (by decide +kernel)) ggX9_pages_X9_takeSpareRow
theorem dX9_pages_0 : decode cX9_pages 0 = .ok (.iload_n 2, 1) := by decide +kernel
theorem dX9_pages_1 : decode cX9_pages 1 = .ok (.iconst 1, 1) := by decide +kernel
theorem dX9_pages_2 : decode cX9_pages 2 = .ok (.if_icmp .lt 21, 3) := by decide +kernel
theorem dX9_pages_5 : decode cX9_pages 5 = .ok (.iload_n 2, 1) := by decide +kernel
theorem dX9_pages_6 : decode cX9_pages 6 = .ok (.bipush 20, 2) := by decide +kernel
theorem dX9_pages_8 : decode cX9_pages 8 = .ok (.if_icmp .gt 15, 3) := by decide +kernel
theorem dX9_pages_11 : decode cX9_pages 11 = .ok (.iload_n 3, 1) := by decide +kernel
theorem dX9_pages_12 : decode cX9_pages 12 = .ok (.iconst 1, 1) := by decide +kernel
theorem dX9_pages_13 : decode cX9_pages 13 = .ok (.if_icmp .lt 10, 3) := by decide +kernel
theorem dX9_pages_16 : decode cX9_pages 16 = .ok (.iload_n 3, 1) := by decide +kernel
theorem dX9_pages_17 : decode cX9_pages 17 = .ok (.sipush 255, 3) := by decide +kernel
theorem dX9_pages_20 : decode cX9_pages 20 = .ok (.if_icmp .le 6, 3) := by decide +kernel
theorem dX9_pages_23 : decode cX9_pages 23 = .ok (.bipush (-2), 2) := by decide +kernel
theorem dX9_pages_25 : decode cX9_pages 25 = .ok (.ireturn, 1) := by decide +kernel
theorem dX9_pages_26 : decode cX9_pages 26 = .ok (.aload_n 0, 1) := by decide +kernel
theorem dX9_pages_27 : decode cX9_pages 27 = .ok (.getfield 27, 3) := by decide +kernel
theorem dX9_pages_30 : decode cX9_pages 30 = .ok (.getfield 102, 3) := by decide +kernel
theorem dX9_pages_33 : decode cX9_pages 33 = .ok (.ifCond .eq 13, 3) := by decide +kernel
theorem dX9_pages_36 : decode cX9_pages 36 = .ok (.aload_n 0, 1) := by decide +kernel
theorem dX9_pages_37 : decode cX9_pages 37 = .ok (.getfield 27, 3) := by decide +kernel
theorem dX9_pages_40 : decode cX9_pages 40 = .ok (.invokevirtual 108, 3) := by decide +kernel
theorem dX9_pages_43 : decode cX9_pages 43 = .ok (.ifCond .ne 5, 3) := by decide +kernel
theorem dX9_pages_46 : decode cX9_pages 46 = .ok (.iconst (-1), 1) := by decide +kernel
theorem dX9_pages_47 : decode cX9_pages 47 = .ok (.ireturn, 1) := by decide +kernel
theorem dX9_pages_48 : decode cX9_pages 48 = .ok (.aload_n 0, 1) := by decide +kernel
theorem dX9_pages_49 : decode cX9_pages 49 = .ok (.getfield 21, 3) := by decide +kernel
theorem dX9_pages_52 : decode cX9_pages 52 = .ok (.invokevirtual 99, 3) := by decide +kernel
theorem dX9_pages_55 : decode cX9_pages 55 = .ok (.aload_n 0, 1) := by decide +kernel
theorem dX9_pages_56 : decode cX9_pages 56 = .ok (.getfield 37, 3) := by decide +kernel
theorem dX9_pages_59 : decode cX9_pages 59 = .ok (.aload_n 0, 1) := by decide +kernel
theorem dX9_pages_60 : decode cX9_pages 60 = .ok (.getfield 27, 3) := by decide +kernel
theorem dX9_pages_63 : decode cX9_pages 63 = .ok (.aload_n 0, 1) := by decide +kernel
theorem dX9_pages_64 : decode cX9_pages 64 = .ok (.getfield 21, 3) := by decide +kernel
theorem dX9_pages_67 : decode cX9_pages 67 = .ok (.iload_n 1, 1) := by decide +kernel
theorem dX9_pages_68 : decode cX9_pages 68 = .ok (.iload_n 2, 1) := by decide +kernel
theorem dX9_pages_69 : decode cX9_pages 69 = .ok (.iload_n 3, 1) := by decide +kernel
theorem dX9_pages_70 : decode cX9_pages 70 = .ok (.invokevirtual 112, 3) := by decide +kernel
theorem dX9_pages_73 : decode cX9_pages 73 = .ok (.aload_n 0, 1) := by decide +kernel
theorem dX9_pages_74 : decode cX9_pages 74 = .ok (.invokevirtual 116, 3) := by decide +kernel
theorem dX9_pages_77 : decode cX9_pages 77 = .ok (.ireturn, 1) := by decide +kernel
set_option maxRecDepth 20000 in
theorem ggX9_elements_X8_empty : GoodIn wsX9_elements wsX8_empty := goodIn_r _ [8, 9, 10, 161, 162, 163, 164] (by decide +kernel) (by decide +kernel)
set_option maxRecDepth 20000 in
theorem gX9_elements_X8_empty : GoodIn wsX9_elements (wsV RX9 99 RX8 yX8_empty wsX8_empty) := goodIn_app (goodIn_of _ (by decide +kernel)) ggX9_elements_X8_empty
set_option maxRecDepth 20000 in
theorem ggX9_elements_X2_write : GoodIn wsX9_elements wsX2_write := goodIn_r _ [15, 16, 17, 18, 19, 20, 21, 22, 23, 24, 25, 26, 27, 28, 7, 29, 30, 31, 32, 33, 9, 34, 10, 35, 36, 37, 38, 39, 40, 41, 42, 14, 43, 44, 45, 46, 47, 48, 49, 50, 51, 52, 53, 54, 55, 56, 57, 58, 59, 60, 61, 62, 63, 64, 65, 66, 67, 68, 69, 70, 71, 72, 73, 74, 75, 76, 77, 78, 79, 80, 81, 82, 83, 84, 85, 86, 87, 88, 89, 90, 91, 92, 93, 94, 95, 96, 97, 98, 99, 100, 101, 102, 103, 104, 105, 106, 107, 108, 109, 110, 111, 112, 113, 114, 5, 6, 8, 115, 116, 117, 118, 119, 120, 121, 122, 123, 124, 125, 126, 127, 128, 129, 130, 131, 132, 133, 134, 135, 136, 137, 138, 165, 166, 167, 168, 169, 170, 161, 162, 163, 164, 171, 172, 173, 174] (by decide +kernel) (by decide +kernel)
set_option maxRecDepth 20000 in
theorem gX9_elements_X2_write : GoodIn wsX9_elements (wsV RX9 120 RX2 yX2_write wsX2_write) := goodIn_app (goodIn_of _ (by decide +kernel)) ggX9_elements_X2_write
set_option maxRecDepth 20000 in
theorem ggX9_elements_X9_takeSpareRow : GoodIn wsX9_elements wsX9_takeSpareRow := goodIn_r _ [143, 1, 144, 145, 146, 147, 148, 149, 150, 151, 152, 153, 154, 155, 156, 157, 158, 159, 160, 161, 162, 163, 164] (by decide +kernel) (by decide +kernel)
set_option maxRecDepth 20000 in
theorem gX9_elements_X9_takeSpareRow : GoodIn wsX9_elements (wsV RX9 116 RX9 yX9_takeSpareRow wsX9_takeSpareRow) := goodIn_app (goodIn_of _ (by decide +kernel)) ggX9_elements_X9_takeSpareRow
theorem dX9_elements_0 : decode cX9_elements 0 = .ok (.iload_n 1, 1) := by decide +kernel
theorem dX9_elements_1 : decode cX9_elements 1 = .ok (.ifCond .lt 30, 3) := by decide +kernel
theorem dX9_elements_4 : decode cX9_elements 4 = .ok (.iload_n 1, 1) := by decide +kernel
theorem dX9_elements_5 : decode cX9_elements 5 = .ok (.iconst 3, 1) := by decide +kernel
theorem dX9_elements_6 : decode cX9_elements 6 = .ok (.if_icmp .gt 25, 3) := by decide +kernel
theorem dX9_elements_9 : decode cX9_elements 9 = .ok (.iload_n 2, 1) := by decide +kernel
theorem dX9_elements_10 : decode cX9_elements 10 = .ok (.iconst 1, 1) := by decide +kernel
theorem dX9_elements_11 : decode cX9_elements 11 = .ok (.if_icmp .lt 20, 3) := by decide +kernel
theorem dX9_elements_14 : decode cX9_elements 14 = .ok (.iload_n 2, 1) := by decide +kernel
theorem dX9_elements_15 : decode cX9_elements 15 = .ok (.bipush 8, 2) := by decide +kernel
theorem dX9_elements_17 : decode cX9_elements 17 = .ok (.if_icmp .gt 14, 3) := by decide +kernel
theorem dX9_elements_20 : decode cX9_elements 20 = .ok (.iload_n 3, 1) := by decide +kernel
theorem dX9_elements_21 : decode cX9_elements 21 = .ok (.iconst 1, 1) := by decide +kernel
theorem dX9_elements_22 : decode cX9_elements 22 = .ok (.if_icmp .lt 9, 3) := by decide +kernel
theorem dX9_elements_25 : decode cX9_elements 25 = .ok (.iload_n 3, 1) := by decide +kernel
theorem dX9_elements_26 : decode cX9_elements 26 = .ok (.bipush 20, 2) := by decide +kernel
theorem dX9_elements_28 : decode cX9_elements 28 = .ok (.if_icmp .le 6, 3) := by decide +kernel
theorem dX9_elements_31 : decode cX9_elements 31 = .ok (.bipush (-2), 2) := by decide +kernel
theorem dX9_elements_33 : decode cX9_elements 33 = .ok (.ireturn, 1) := by decide +kernel
theorem dX9_elements_34 : decode cX9_elements 34 = .ok (.aload_n 0, 1) := by decide +kernel
theorem dX9_elements_35 : decode cX9_elements 35 = .ok (.getfield 21, 3) := by decide +kernel
theorem dX9_elements_38 : decode cX9_elements 38 = .ok (.invokevirtual 99, 3) := by decide +kernel
theorem dX9_elements_41 : decode cX9_elements 41 = .ok (.aload_n 0, 1) := by decide +kernel
theorem dX9_elements_42 : decode cX9_elements 42 = .ok (.getfield 51, 3) := by decide +kernel
theorem dX9_elements_45 : decode cX9_elements 45 = .ok (.aload_n 0, 1) := by decide +kernel
theorem dX9_elements_46 : decode cX9_elements 46 = .ok (.getfield 27, 3) := by decide +kernel
theorem dX9_elements_49 : decode cX9_elements 49 = .ok (.aload_n 0, 1) := by decide +kernel
theorem dX9_elements_50 : decode cX9_elements 50 = .ok (.getfield 21, 3) := by decide +kernel
theorem dX9_elements_53 : decode cX9_elements 53 = .ok (.iload_n 1, 1) := by decide +kernel
theorem dX9_elements_54 : decode cX9_elements 54 = .ok (.iload_n 1, 1) := by decide +kernel
theorem dX9_elements_55 : decode cX9_elements 55 = .ok (.ifCond .ne 7, 3) := by decide +kernel
theorem dX9_elements_58 : decode cX9_elements 58 = .ok (.iconst 1, 1) := by decide +kernel
theorem dX9_elements_59 : decode cX9_elements 59 = .ok (.goto 4, 3) := by decide +kernel
theorem dX9_elements_62 : decode cX9_elements 62 = .ok (.iload_n 2, 1) := by decide +kernel
theorem dX9_elements_63 : decode cX9_elements 63 = .ok (.iload_n 3, 1) := by decide +kernel
theorem dX9_elements_64 : decode cX9_elements 64 = .ok (.iload 4, 2) := by decide +kernel
theorem dX9_elements_66 : decode cX9_elements 66 = .ok (.invokevirtual 120, 3) := by decide +kernel
theorem dX9_elements_69 : decode cX9_elements 69 = .ok (.aload_n 0, 1) := by decide +kernel
theorem dX9_elements_70 : decode cX9_elements 70 = .ok (.invokevirtual 116, 3) := by decide +kernel
theorem dX9_elements_73 : decode cX9_elements 73 = .ok (.ireturn, 1) := by decide +kernel
set_option maxRecDepth 20000 in
theorem ggX9_readPages_X9_isOnTape : GoodIn wsX9_readPages wsX9_isOnTape := goodIn_r _ [14, 3, 15, 134, 135, 136, 137, 138, 139, 140, 141, 142, 143, 144, 145, 146, 147, 158, 159, 160, 161] (by decide +kernel) (by decide +kernel)
set_option maxRecDepth 20000 in
theorem gX9_readPages_X9_isOnTape : GoodIn wsX9_readPages (wsV RX9 76 RX9 yX9_isOnTape wsX9_isOnTape) := goodIn_app (goodIn_of _ (by decide +kernel)) ggX9_readPages_X9_isOnTape
set_option maxRecDepth 20000 in
theorem ggX9_readPages_X4_empty : GoodIn wsX9_readPages wsX4_empty := goodIn_r _ [20, 21, 22, 23, 24, 25, 26, 27, 28, 29, 162, 163, 164, 165, 158, 159, 160, 161] (by decide +kernel) (by decide +kernel)
set_option maxRecDepth 20000 in
theorem gX9_readPages_X4_empty : GoodIn wsX9_readPages (wsV RX9 105 RX4 yX4_empty wsX4_empty) := goodIn_app (goodIn_of _ (by decide +kernel)) ggX9_readPages_X4_empty
set_option maxRecDepth 20000 in
theorem ggX9_readPages_X6_read : GoodIn wsX9_readPages wsX6_read := goodIn_r _ [34, 35, 36, 37, 38, 39, 40, 41, 42, 43, 44, 45, 46, 33, 47, 48, 49, 50, 51, 52, 53, 54, 55, 26, 56, 57, 58, 59, 60, 28, 61, 62, 63, 64, 65, 66, 67, 68, 69, 70, 71, 72, 73, 74, 75, 76, 77, 78, 79, 80, 81, 82, 83, 84, 85, 86, 87, 88, 89, 90, 91, 92, 93, 94, 95, 96, 19, 97, 21, 22, 98, 99, 100, 101, 102, 103, 104, 105, 106, 107, 108, 109, 110, 111, 112, 29, 113, 114, 115, 116, 117, 118, 119, 120, 121, 122, 123, 124, 125, 126, 148, 149, 150, 151, 152, 153, 154, 155, 156, 157, 158, 159, 160, 161, 162, 163, 164, 165] (by decide +kernel) (by decide +kernel)
set_option maxRecDepth 20000 in
theorem gX9_readPages_X6_read : GoodIn wsX9_readPages (wsV RX9 123 RX6 yX6_read wsX6_read) := goodIn_app (goodIn_of _ (by decide +kernel)) ggX9_readPages_X6_read
set_option maxRecDepth 20000 in
theorem ggX9_readPages_X9_takeSpareList : GoodIn wsX9_readPages wsX9_takeSpareList := goodIn_r _ [130, 3, 5, 131, 1, 132, 133, 24, 25, 26, 27, 28, 29, 134, 135, 136, 137, 138, 139, 140, 141, 142, 143, 144, 145, 146, 147, 162, 163, 164, 165, 158, 159, 160, 161] (by decide +kernel) (by decide +kernel)
set_option maxRecDepth 20000 in
theorem gX9_readPages_X9_takeSpareList : GoodIn wsX9_readPages (wsV RX9 137 RX9 yX9_takeSpareList wsX9_takeSpareList) := goodIn_app (goodIn_of _ (by decide +kernel)) ggX9_readPages_X9_takeSpareList
theorem dX9_readPages_0 : decode cX9_readPages 0 = .ok (.aload_n 0, 1) := by decide +kernel
theorem dX9_readPages_1 : decode cX9_readPages 1 = .ok (.iload_n 1, 1) := by decide +kernel
theorem dX9_readPages_2 : decode cX9_readPages 2 = .ok (.invokevirtual 76, 3) := by decide +kernel
theorem dX9_readPages_5 : decode cX9_readPages 5 = .ok (.ifCond .ne 6, 3) := by decide +kernel
theorem dX9_readPages_8 : decode cX9_readPages 8 = .ok (.bipush (-2), 2) := by decide +kernel
theorem dX9_readPages_10 : decode cX9_readPages 10 = .ok (.ireturn, 1) := by decide +kernel
theorem dX9_readPages_11 : decode cX9_readPages 11 = .ok (.aload_n 0, 1) := by decide +kernel
theorem dX9_readPages_12 : decode cX9_readPages 12 = .ok (.getfield 31, 3) := by decide +kernel
theorem dX9_readPages_15 : decode cX9_readPages 15 = .ok (.invokevirtual 105, 3) := by decide +kernel
theorem dX9_readPages_18 : decode cX9_readPages 18 = .ok (.aload_n 0, 1) := by decide +kernel
theorem dX9_readPages_19 : decode cX9_readPages 19 = .ok (.getfield 44, 3) := by decide +kernel
theorem dX9_readPages_22 : decode cX9_readPages 22 = .ok (.aload_n 0, 1) := by decide +kernel
theorem dX9_readPages_23 : decode cX9_readPages 23 = .ok (.getfield 14, 3) := by decide +kernel
theorem dX9_readPages_26 : decode cX9_readPages 26 = .ok (.iload_n 1, 1) := by decide +kernel
theorem dX9_readPages_27 : decode cX9_readPages 27 = .ok (.aload_n 0, 1) := by decide +kernel
theorem dX9_readPages_28 : decode cX9_readPages 28 = .ok (.getfield 31, 3) := by decide +kernel
theorem dX9_readPages_31 : decode cX9_readPages 31 = .ok (.invokevirtual 123, 3) := by decide +kernel
theorem dX9_readPages_34 : decode cX9_readPages 34 = .ok (.aload_n 0, 1) := by decide +kernel
theorem dX9_readPages_35 : decode cX9_readPages 35 = .ok (.aload_n 0, 1) := by decide +kernel
theorem dX9_readPages_36 : decode cX9_readPages 36 = .ok (.getfield 44, 3) := by decide +kernel
theorem dX9_readPages_39 : decode cX9_readPages 39 = .ok (.getfield 127, 3) := by decide +kernel
theorem dX9_readPages_42 : decode cX9_readPages 42 = .ok (.putfield 62, 3) := by decide +kernel
theorem dX9_readPages_45 : decode cX9_readPages 45 = .ok (.aload_n 0, 1) := by decide +kernel
theorem dX9_readPages_46 : decode cX9_readPages 46 = .ok (.aload_n 0, 1) := by decide +kernel
theorem dX9_readPages_47 : decode cX9_readPages 47 = .ok (.getfield 44, 3) := by decide +kernel
theorem dX9_readPages_50 : decode cX9_readPages 50 = .ok (.getfield 128, 3) := by decide +kernel
theorem dX9_readPages_53 : decode cX9_readPages 53 = .ok (.putfield 66, 3) := by decide +kernel
theorem dX9_readPages_56 : decode cX9_readPages 56 = .ok (.aload_n 0, 1) := by decide +kernel
theorem dX9_readPages_57 : decode cX9_readPages 57 = .ok (.aload_n 0, 1) := by decide +kernel
theorem dX9_readPages_58 : decode cX9_readPages 58 = .ok (.getfield 62, 3) := by decide +kernel
theorem dX9_readPages_61 : decode cX9_readPages 61 = .ok (.ifCond .ne 13, 3) := by decide +kernel
theorem dX9_readPages_64 : decode cX9_readPages 64 = .ok (.aload_n 0, 1) := by decide +kernel
theorem dX9_readPages_65 : decode cX9_readPages 65 = .ok (.getfield 44, 3) := by decide +kernel
theorem dX9_readPages_68 : decode cX9_readPages 68 = .ok (.getfield 131, 3) := by decide +kernel
theorem dX9_readPages_71 : decode cX9_readPages 71 = .ok (.goto 4, 3) := by decide +kernel
theorem dX9_readPages_74 : decode cX9_readPages 74 = .ok (.iconst 0, 1) := by decide +kernel
theorem dX9_readPages_75 : decode cX9_readPages 75 = .ok (.putfield 134, 3) := by decide +kernel
theorem dX9_readPages_78 : decode cX9_readPages 78 = .ok (.aload_n 0, 1) := by decide +kernel
theorem dX9_readPages_79 : decode cX9_readPages 79 = .ok (.invokevirtual 137, 3) := by decide +kernel
theorem dX9_readPages_82 : decode cX9_readPages 82 = .ok (.ireturn, 1) := by decide +kernel
set_option maxRecDepth 20000 in
theorem ggX9_readElements_X9_isOnTape : GoodIn wsX9_readElements wsX9_isOnTape := goodIn_r _ [16, 3, 17, 247, 248, 249, 250, 251, 252, 253, 254, 255, 256, 257, 258, 259, 260, 274, 275, 276, 277] (by decide +kernel) (by decide +kernel)
set_option maxRecDepth 20000 in
theorem gX9_readElements_X9_isOnTape : GoodIn wsX9_readElements (wsV RX9 76 RX9 yX9_isOnTape wsX9_isOnTape) := goodIn_app (goodIn_of _ (by decide +kernel)) ggX9_readElements_X9_isOnTape
set_option maxRecDepth 20000 in
theorem ggX9_readElements_X4_empty : GoodIn wsX9_readElements wsX4_empty := goodIn_r _ [22, 23, 24, 25, 26, 27, 28, 29, 30, 31, 278, 279, 280, 281, 274, 275, 276, 277] (by decide +kernel) (by decide +kernel)
set_option maxRecDepth 20000 in
theorem gX9_readElements_X4_empty : GoodIn wsX9_readElements (wsV RX9 105 RX4 yX4_empty wsX4_empty) := goodIn_app (goodIn_of _ (by decide +kernel)) ggX9_readElements_X4_empty
set_option maxRecDepth 20000 in
theorem ggX9_readElements_X1_read : GoodIn wsX9_readElements wsX1_read := goodIn_r _ [36, 37, 38, 39, 40, 41, 42, 43, 44, 45, 46, 47, 48, 49, 50, 51, 35, 52, 53, 54, 55, 56, 57, 58, 59, 60, 61, 62, 63, 64, 65, 66, 67, 68, 69, 70, 71, 72, 73, 28, 74, 30, 75, 76, 77, 78, 79, 80, 81, 82, 83, 84, 85, 86, 87, 88, 89, 90, 91, 92, 93, 94, 95, 96, 97, 98, 99, 100, 101, 102, 103, 104, 105, 106, 107, 108, 109, 110, 111, 112, 113, 114, 115, 116, 117, 118, 119, 120, 121, 122, 123, 124, 125, 126, 127, 128, 129, 130, 131, 132, 133, 134, 135, 136, 137, 138, 139, 140, 141, 142, 143, 144, 145, 146, 147, 148, 149, 150, 151, 152, 153, 154, 155, 156, 157, 158, 159, 160, 161, 162, 163, 164, 165, 166, 167, 168, 169, 170, 171, 172, 173, 174, 175, 176, 177, 178, 179, 180, 181, 182, 183, 184, 185, 186, 187, 188, 189, 190, 191, 192, 193, 194, 195, 196, 197, 198, 199, 200, 201, 202, 203, 204, 205, 206, 207, 208, 209, 210, 211, 212, 213, 21, 214, 23, 24, 215, 216, 217, 218, 219, 220, 221, 222, 223, 224, 225, 226, 227, 228, 229, 31, 230, 231, 232, 233, 234, 235, 236, 237, 238, 239, 261, 262, 263, 264, 265, 266, 267, 268, 269, 270, 271, 272, 273, 282, 283, 284, 285, 286, 274, 275, 276, 277, 278, 279, 280, 281] (by decide +kernel) (by decide +kernel)
set_option maxRecDepth 20000 in
theorem gX9_readElements_X1_read : GoodIn wsX9_readElements (wsV RX9 140 RX1 yX1_read wsX1_read) := goodIn_app (goodIn_of _ (by decide +kernel)) ggX9_readElements_X1_read
set_option maxRecDepth 20000 in
theorem ggX9_readElements_X9_takeSpareList : GoodIn wsX9_readElements wsX9_takeSpareList := goodIn_r _ [243, 3, 5, 244, 1, 245, 246, 26, 27, 28, 29, 30, 31, 247, 248, 249, 250, 251, 252, 253, 254, 255, 256, 257, 258, 259, 260, 278, 279, 280, 281, 274, 275, 276, 277] (by decide +kernel) (by decide +kernel)
set_option maxRecDepth 20000 in
theorem gX9_readElements_X9_takeSpareList : GoodIn wsX9_readElements (wsV RX9 137 RX9 yX9_takeSpareList wsX9_takeSpareList) := goodIn_app (goodIn_of _ (by decide +kernel)) ggX9_readElements_X9_takeSpareList
theorem dX9_readElements_0 : decode cX9_readElements 0 = .ok (.aload_n 0, 1) := by decide +kernel
theorem dX9_readElements_1 : decode cX9_readElements 1 = .ok (.iload_n 1, 1) := by decide +kernel
theorem dX9_readElements_2 : decode cX9_readElements 2 = .ok (.invokevirtual 76, 3) := by decide +kernel
theorem dX9_readElements_5 : decode cX9_readElements 5 = .ok (.ifCond .ne 6, 3) := by decide +kernel
theorem dX9_readElements_8 : decode cX9_readElements 8 = .ok (.bipush (-2), 2) := by decide +kernel
theorem dX9_readElements_10 : decode cX9_readElements 10 = .ok (.ireturn, 1) := by decide +kernel
theorem dX9_readElements_11 : decode cX9_readElements 11 = .ok (.aload_n 0, 1) := by decide +kernel
theorem dX9_readElements_12 : decode cX9_readElements 12 = .ok (.getfield 31, 3) := by decide +kernel
theorem dX9_readElements_15 : decode cX9_readElements 15 = .ok (.invokevirtual 105, 3) := by decide +kernel
theorem dX9_readElements_18 : decode cX9_readElements 18 = .ok (.aload_n 0, 1) := by decide +kernel
theorem dX9_readElements_19 : decode cX9_readElements 19 = .ok (.getfield 58, 3) := by decide +kernel
theorem dX9_readElements_22 : decode cX9_readElements 22 = .ok (.aload_n 0, 1) := by decide +kernel
theorem dX9_readElements_23 : decode cX9_readElements 23 = .ok (.getfield 14, 3) := by decide +kernel
theorem dX9_readElements_26 : decode cX9_readElements 26 = .ok (.iload_n 1, 1) := by decide +kernel
theorem dX9_readElements_27 : decode cX9_readElements 27 = .ok (.aload_n 0, 1) := by decide +kernel
theorem dX9_readElements_28 : decode cX9_readElements 28 = .ok (.getfield 31, 3) := by decide +kernel
theorem dX9_readElements_31 : decode cX9_readElements 31 = .ok (.invokevirtual 140, 3) := by decide +kernel
theorem dX9_readElements_34 : decode cX9_readElements 34 = .ok (.aload_n 0, 1) := by decide +kernel
theorem dX9_readElements_35 : decode cX9_readElements 35 = .ok (.aload_n 0, 1) := by decide +kernel
theorem dX9_readElements_36 : decode cX9_readElements 36 = .ok (.getfield 58, 3) := by decide +kernel
theorem dX9_readElements_39 : decode cX9_readElements 39 = .ok (.getfield 141, 3) := by decide +kernel
theorem dX9_readElements_42 : decode cX9_readElements 42 = .ok (.putfield 62, 3) := by decide +kernel
theorem dX9_readElements_45 : decode cX9_readElements 45 = .ok (.aload_n 0, 1) := by decide +kernel
theorem dX9_readElements_46 : decode cX9_readElements 46 = .ok (.aload_n 0, 1) := by decide +kernel
theorem dX9_readElements_47 : decode cX9_readElements 47 = .ok (.getfield 58, 3) := by decide +kernel
theorem dX9_readElements_50 : decode cX9_readElements 50 = .ok (.getfield 142, 3) := by decide +kernel
theorem dX9_readElements_53 : decode cX9_readElements 53 = .ok (.putfield 66, 3) := by decide +kernel
theorem dX9_readElements_56 : decode cX9_readElements 56 = .ok (.aload_n 0, 1) := by decide +kernel
theorem dX9_readElements_57 : decode cX9_readElements 57 = .ok (.aload_n 0, 1) := by decide +kernel
theorem dX9_readElements_58 : decode cX9_readElements 58 = .ok (.getfield 62, 3) := by decide +kernel
theorem dX9_readElements_61 : decode cX9_readElements 61 = .ok (.ifCond .ne 13, 3) := by decide +kernel
theorem dX9_readElements_64 : decode cX9_readElements 64 = .ok (.aload_n 0, 1) := by decide +kernel
theorem dX9_readElements_65 : decode cX9_readElements 65 = .ok (.getfield 58, 3) := by decide +kernel
theorem dX9_readElements_68 : decode cX9_readElements 68 = .ok (.getfield 143, 3) := by decide +kernel
theorem dX9_readElements_71 : decode cX9_readElements 71 = .ok (.goto 4, 3) := by decide +kernel
theorem dX9_readElements_74 : decode cX9_readElements 74 = .ok (.iconst 0, 1) := by decide +kernel
theorem dX9_readElements_75 : decode cX9_readElements 75 = .ok (.putfield 146, 3) := by decide +kernel
theorem dX9_readElements_78 : decode cX9_readElements 78 = .ok (.aload_n 0, 1) := by decide +kernel
theorem dX9_readElements_79 : decode cX9_readElements 79 = .ok (.aload_n 0, 1) := by decide +kernel
theorem dX9_readElements_80 : decode cX9_readElements 80 = .ok (.getfield 62, 3) := by decide +kernel
theorem dX9_readElements_83 : decode cX9_readElements 83 = .ok (.ifCond .ne 13, 3) := by decide +kernel
theorem dX9_readElements_86 : decode cX9_readElements 86 = .ok (.aload_n 0, 1) := by decide +kernel
theorem dX9_readElements_87 : decode cX9_readElements 87 = .ok (.getfield 58, 3) := by decide +kernel
theorem dX9_readElements_90 : decode cX9_readElements 90 = .ok (.getfield 149, 3) := by decide +kernel
theorem dX9_readElements_93 : decode cX9_readElements 93 = .ok (.goto 4, 3) := by decide +kernel
theorem dX9_readElements_96 : decode cX9_readElements 96 = .ok (.iconst 0, 1) := by decide +kernel
theorem dX9_readElements_97 : decode cX9_readElements 97 = .ok (.putfield 152, 3) := by decide +kernel
theorem dX9_readElements_100 : decode cX9_readElements 100 = .ok (.aload_n 0, 1) := by decide +kernel
theorem dX9_readElements_101 : decode cX9_readElements 101 = .ok (.invokevirtual 137, 3) := by decide +kernel
theorem dX9_readElements_104 : decode cX9_readElements 104 = .ok (.ireturn, 1) := by decide +kernel
theorem dX9_wrong_0 : decode cX9_wrong 0 = .ok (.iload_n 1, 1) := by decide +kernel
theorem dX9_wrong_1 : decode cX9_wrong 1 = .ok (.lookupswitch 37 #[(0, 27), (1, 32)], 27) := by decide +kernel
theorem dX9_wrong_28 : decode cX9_wrong 28 = .ok (.aload_n 0, 1) := by decide +kernel
theorem dX9_wrong_29 : decode cX9_wrong 29 = .ok (.getfield 62, 3) := by decide +kernel
theorem dX9_wrong_32 : decode cX9_wrong 32 = .ok (.ireturn, 1) := by decide +kernel
theorem dX9_wrong_33 : decode cX9_wrong 33 = .ok (.aload_n 0, 1) := by decide +kernel
theorem dX9_wrong_34 : decode cX9_wrong 34 = .ok (.getfield 66, 3) := by decide +kernel
theorem dX9_wrong_37 : decode cX9_wrong 37 = .ok (.ireturn, 1) := by decide +kernel
theorem dX9_wrong_38 : decode cX9_wrong 38 = .ok (.iconst (-1), 1) := by decide +kernel
theorem dX9_wrong_39 : decode cX9_wrong 39 = .ok (.ireturn, 1) := by decide +kernel
set_option maxRecDepth 20000 in
theorem ggX9_turn_X8_becomeLike : GoodIn wsX9_turn wsX8_becomeLike := goodIn_r _ [8, 9, 10, 11, 12, 13, 14, 15, 16, 17, 18, 19, 20, 35, 36, 37, 38] (by decide +kernel) (by decide +kernel)
set_option maxRecDepth 20000 in
theorem gX9_turn_X8_becomeLike : GoodIn wsX9_turn (wsV RX9 155 RX8 yX8_becomeLike wsX8_becomeLike) := goodIn_app (goodIn_of _ (by decide +kernel)) ggX9_turn_X8_becomeLike
theorem dX9_turn_0 : decode cX9_turn 0 = .ok (.aload_n 0, 1) := by decide +kernel
theorem dX9_turn_1 : decode cX9_turn 1 = .ok (.getfield 14, 3) := by decide +kernel
theorem dX9_turn_4 : decode cX9_turn 4 = .ok (.aload_n 0, 1) := by decide +kernel
theorem dX9_turn_5 : decode cX9_turn 5 = .ok (.getfield 18, 3) := by decide +kernel
theorem dX9_turn_8 : decode cX9_turn 8 = .ok (.invokevirtual 155, 3) := by decide +kernel
theorem dX9_turn_11 : decode cX9_turn 11 = .ok (.aload_n 0, 1) := by decide +kernel
theorem dX9_turn_12 : decode cX9_turn 12 = .ok (.getfield 14, 3) := by decide +kernel
theorem dX9_turn_15 : decode cX9_turn 15 = .ok (.getfield 69, 3) := by decide +kernel
theorem dX9_turn_18 : decode cX9_turn 18 = .ok (.ireturn, 1) := by decide +kernel
theorem dX9_count_0 : decode cX9_count 0 = .ok (.iload_n 1, 1) := by decide +kernel
theorem dX9_count_1 : decode cX9_count 1 = .ok (.tableswitch 93 0 6 #[43, 51, 62, 70, 78, 83, 88], 43) := by decide +kernel
theorem dX9_count_44 : decode cX9_count 44 = .ok (.aload_n 0, 1) := by decide +kernel
theorem dX9_count_45 : decode cX9_count 45 = .ok (.getfield 27, 3) := by decide +kernel
theorem dX9_count_48 : decode cX9_count 48 = .ok (.getfield 102, 3) := by decide +kernel
theorem dX9_count_51 : decode cX9_count 51 = .ok (.ireturn, 1) := by decide +kernel
theorem dX9_count_52 : decode cX9_count 52 = .ok (.aload_n 0, 1) := by decide +kernel
theorem dX9_count_53 : decode cX9_count 53 = .ok (.getfield 27, 3) := by decide +kernel
theorem dX9_count_56 : decode cX9_count 56 = .ok (.getfield 88, 3) := by decide +kernel
theorem dX9_count_59 : decode cX9_count 59 = .ok (.getfield 69, 3) := by decide +kernel
theorem dX9_count_62 : decode cX9_count 62 = .ok (.ireturn, 1) := by decide +kernel
theorem dX9_count_63 : decode cX9_count 63 = .ok (.aload_n 0, 1) := by decide +kernel
theorem dX9_count_64 : decode cX9_count 64 = .ok (.getfield 18, 3) := by decide +kernel
theorem dX9_count_67 : decode cX9_count 67 = .ok (.getfield 69, 3) := by decide +kernel
theorem dX9_count_70 : decode cX9_count 70 = .ok (.ireturn, 1) := by decide +kernel
theorem dX9_count_71 : decode cX9_count 71 = .ok (.aload_n 0, 1) := by decide +kernel
theorem dX9_count_72 : decode cX9_count 72 = .ok (.getfield 14, 3) := by decide +kernel
theorem dX9_count_75 : decode cX9_count 75 = .ok (.getfield 69, 3) := by decide +kernel
theorem dX9_count_78 : decode cX9_count 78 = .ok (.ireturn, 1) := by decide +kernel
theorem dX9_count_79 : decode cX9_count 79 = .ok (.aload_n 0, 1) := by decide +kernel
theorem dX9_count_80 : decode cX9_count 80 = .ok (.getfield 134, 3) := by decide +kernel
theorem dX9_count_83 : decode cX9_count 83 = .ok (.ireturn, 1) := by decide +kernel
theorem dX9_count_84 : decode cX9_count 84 = .ok (.aload_n 0, 1) := by decide +kernel
theorem dX9_count_85 : decode cX9_count 85 = .ok (.getfield 146, 3) := by decide +kernel
theorem dX9_count_88 : decode cX9_count 88 = .ok (.ireturn, 1) := by decide +kernel
theorem dX9_count_89 : decode cX9_count 89 = .ok (.aload_n 0, 1) := by decide +kernel
theorem dX9_count_90 : decode cX9_count 90 = .ok (.getfield 152, 3) := by decide +kernel
theorem dX9_count_93 : decode cX9_count 93 = .ok (.ireturn, 1) := by decide +kernel
theorem dX9_count_94 : decode cX9_count 94 = .ok (.iconst (-1), 1) := by decide +kernel
theorem dX9_count_95 : decode cX9_count 95 = .ok (.ireturn, 1) := by decide +kernel
set_option maxRecDepth 20000 in
theorem ggX9_size_X4_bytesOf : GoodIn wsX9_size wsX4_bytesOf := goodIn_r _ [6, 7, 8, 9, 10, 5, 11, 12, 13, 14, 15, 16, 31, 32, 33, 34] (by decide +kernel) (by decide +kernel)
set_option maxRecDepth 20000 in
theorem gX9_size_X4_bytesOf : GoodIn wsX9_size (wsV RX9 159 RX4 yX4_bytesOf wsX4_bytesOf) := goodIn_app (goodIn_of _ (by decide +kernel)) ggX9_size_X4_bytesOf
theorem dX9_size_0 : decode cX9_size 0 = .ok (.aload_n 0, 1) := by decide +kernel
theorem dX9_size_1 : decode cX9_size 1 = .ok (.getfield 27, 3) := by decide +kernel
theorem dX9_size_4 : decode cX9_size 4 = .ok (.iload_n 1, 1) := by decide +kernel
theorem dX9_size_5 : decode cX9_size 5 = .ok (.invokevirtual 159, 3) := by decide +kernel
theorem dX9_size_8 : decode cX9_size 8 = .ok (.ireturn, 1) := by decide +kernel
set_option maxRecDepth 20000 in
theorem ggX9_time_X4_timeOf : GoodIn wsX9_time wsX4_timeOf := goodIn_r _ [6, 7, 8, 9, 10, 11, 5, 12, 13, 28, 29, 30, 31] (by decide +kernel) (by decide +kernel)
set_option maxRecDepth 20000 in
theorem gX9_time_X4_timeOf : GoodIn wsX9_time (wsV RX9 163 RX4 yX4_timeOf wsX4_timeOf) := goodIn_app (goodIn_of _ (by decide +kernel)) ggX9_time_X4_timeOf
theorem dX9_time_0 : decode cX9_time 0 = .ok (.aload_n 0, 1) := by decide +kernel
theorem dX9_time_1 : decode cX9_time 1 = .ok (.getfield 27, 3) := by decide +kernel
theorem dX9_time_4 : decode cX9_time 4 = .ok (.iload_n 1, 1) := by decide +kernel
theorem dX9_time_5 : decode cX9_time 5 = .ok (.invokevirtual 163, 3) := by decide +kernel
theorem dX9_time_8 : decode cX9_time 8 = .ok (.lreturn, 1) := by decide +kernel
set_option maxRecDepth 20000 in
theorem ggX9_octet_X4_byteOf : GoodIn wsX9_octet wsX4_byteOf := goodIn_r _ [6, 7, 8, 9, 10, 5, 11, 12, 13, 14, 15, 16, 17, 18, 19, 20, 21, 22, 23, 24, 25, 26, 27, 28, 43, 44, 45, 46, 47, 48, 49, 50] (by decide +kernel) (by decide +kernel)
set_option maxRecDepth 20000 in
theorem gX9_octet_X4_byteOf : GoodIn wsX9_octet (wsV RX9 167 RX4 yX4_byteOf wsX4_byteOf) := goodIn_app (goodIn_of _ (by decide +kernel)) ggX9_octet_X4_byteOf
theorem dX9_octet_0 : decode cX9_octet 0 = .ok (.aload_n 0, 1) := by decide +kernel
theorem dX9_octet_1 : decode cX9_octet 1 = .ok (.getfield 27, 3) := by decide +kernel
theorem dX9_octet_4 : decode cX9_octet 4 = .ok (.iload_n 1, 1) := by decide +kernel
theorem dX9_octet_5 : decode cX9_octet 5 = .ok (.iload_n 2, 1) := by decide +kernel
theorem dX9_octet_6 : decode cX9_octet 6 = .ok (.invokevirtual 167, 3) := by decide +kernel
theorem dX9_octet_9 : decode cX9_octet 9 = .ok (.ireturn, 1) := by decide +kernel
set_option maxRecDepth 20000 in
theorem ggX9_out_X8_at : GoodIn wsX9_out wsX8_at := goodIn_r _ [6, 7, 8, 23, 24, 25, 26] (by decide +kernel) (by decide +kernel)
set_option maxRecDepth 20000 in
theorem gX9_out_X8_at : GoodIn wsX9_out (wsV RX9 171 RX8 yX8_at wsX8_at) := goodIn_app (goodIn_of _ (by decide +kernel)) ggX9_out_X8_at
theorem dX9_out_0 : decode cX9_out 0 = .ok (.aload_n 0, 1) := by decide +kernel
theorem dX9_out_1 : decode cX9_out 1 = .ok (.getfield 18, 3) := by decide +kernel
theorem dX9_out_4 : decode cX9_out 4 = .ok (.iload_n 1, 1) := by decide +kernel
theorem dX9_out_5 : decode cX9_out 5 = .ok (.invokevirtual 171, 3) := by decide +kernel
theorem dX9_out_8 : decode cX9_out 8 = .ok (.ireturn, 1) := by decide +kernel
set_option maxRecDepth 20000 in
theorem ggX9_patch_X8_change : GoodIn wsX9_patch wsX8_change := goodIn_r _ [6, 7, 8, 23, 24, 25, 26] (by decide +kernel) (by decide +kernel)
set_option maxRecDepth 20000 in
theorem gX9_patch_X8_change : GoodIn wsX9_patch (wsV RX9 174 RX8 yX8_change wsX8_change) := goodIn_app (goodIn_of _ (by decide +kernel)) ggX9_patch_X8_change
theorem dX9_patch_0 : decode cX9_patch 0 = .ok (.aload_n 0, 1) := by decide +kernel
theorem dX9_patch_1 : decode cX9_patch 1 = .ok (.getfield 14, 3) := by decide +kernel
theorem dX9_patch_4 : decode cX9_patch 4 = .ok (.iload_n 1, 1) := by decide +kernel
theorem dX9_patch_5 : decode cX9_patch 5 = .ok (.iload_n 2, 1) := by decide +kernel
theorem dX9_patch_6 : decode cX9_patch 6 = .ok (.invokevirtual 174, 3) := by decide +kernel
theorem dX9_patch_9 : decode cX9_patch 9 = .ok (.ireturn, 1) := by decide +kernel
set_option maxRecDepth 20000 in
theorem ggX9_sum_X5_isMarked : GoodIn wsX9_sum wsX5_isMarked := goodIn_r _ [6, 7, 8, 9, 10, 11, 12, 13, 14, 15, 16, 17, 18, 48, 49, 50, 51] (by decide +kernel) (by decide +kernel)
set_option maxRecDepth 20000 in
theorem gX9_sum_X5_isMarked : GoodIn wsX9_sum (va_wsS RX9 177 yX5_isMarked wsX5_isMarked) := goodIn_app (goodIn_of _ (by decide +kernel)) ggX9_sum_X5_isMarked
set_option maxRecDepth 20000 in
theorem ggX9_sum_X5_endOf : GoodIn wsX9_sum wsX5_endOf := goodIn_r _ [21, 22, 14, 15, 11, 16, 17, 18, 48, 49, 50, 51] (by decide +kernel) (by decide +kernel)
set_option maxRecDepth 20000 in
theorem gX9_sum_X5_endOf : GoodIn wsX9_sum (va_wsS RX9 181 yX5_endOf wsX5_endOf) := goodIn_app (goodIn_of _ (by decide +kernel)) ggX9_sum_X5_endOf
set_option maxRecDepth 20000 in
theorem ggX9_sum_X5_makeSumRight : GoodIn wsX9_sum wsX5_makeSumRight := goodIn_r _ [25, 26, 27, 5, 28, 29, 22, 14, 15, 11, 16, 17, 18, 30, 31, 32, 33, 48, 49, 50, 51] (by decide +kernel) (by decide +kernel)
set_option maxRecDepth 20000 in
theorem gX9_sum_X5_makeSumRight : GoodIn wsX9_sum (va_wsS RX9 185 yX5_makeSumRight wsX5_makeSumRight) := goodIn_app (goodIn_of _ (by decide +kernel)) ggX9_sum_X5_makeSumRight
theorem dX9_sum_0 : decode cX9_sum 0 = .ok (.iload_n 1, 1) := by decide +kernel
theorem dX9_sum_1 : decode cX9_sum 1 = .ok (.ifCond .lt 14, 3) := by decide +kernel
theorem dX9_sum_4 : decode cX9_sum 4 = .ok (.aload_n 0, 1) := by decide +kernel
theorem dX9_sum_5 : decode cX9_sum 5 = .ok (.getfield 14, 3) := by decide +kernel
theorem dX9_sum_8 : decode cX9_sum 8 = .ok (.iload_n 1, 1) := by decide +kernel
theorem dX9_sum_9 : decode cX9_sum 9 = .ok (.invokestatic 177, 3) := by decide +kernel
theorem dX9_sum_12 : decode cX9_sum 12 = .ok (.ifCond .ne 5, 3) := by decide +kernel
theorem dX9_sum_15 : decode cX9_sum 15 = .ok (.iconst 0, 1) := by decide +kernel
theorem dX9_sum_16 : decode cX9_sum 16 = .ok (.ireturn, 1) := by decide +kernel
theorem dX9_sum_17 : decode cX9_sum 17 = .ok (.aload_n 0, 1) := by decide +kernel
theorem dX9_sum_18 : decode cX9_sum 18 = .ok (.getfield 14, 3) := by decide +kernel
theorem dX9_sum_21 : decode cX9_sum 21 = .ok (.iload_n 1, 1) := by decide +kernel
theorem dX9_sum_22 : decode cX9_sum 22 = .ok (.aload_n 0, 1) := by decide +kernel
theorem dX9_sum_23 : decode cX9_sum 23 = .ok (.getfield 14, 3) := by decide +kernel
theorem dX9_sum_26 : decode cX9_sum 26 = .ok (.getfield 69, 3) := by decide +kernel
theorem dX9_sum_29 : decode cX9_sum 29 = .ok (.invokestatic 181, 3) := by decide +kernel
theorem dX9_sum_32 : decode cX9_sum 32 = .ok (.istore_n 2, 1) := by decide +kernel
theorem dX9_sum_33 : decode cX9_sum 33 = .ok (.iload_n 2, 1) := by decide +kernel
theorem dX9_sum_34 : decode cX9_sum 34 = .ok (.iconst (-1), 1) := by decide +kernel
theorem dX9_sum_35 : decode cX9_sum 35 = .ok (.if_icmp .ne 5, 3) := by decide +kernel
theorem dX9_sum_38 : decode cX9_sum 38 = .ok (.iconst 0, 1) := by decide +kernel
theorem dX9_sum_39 : decode cX9_sum 39 = .ok (.ireturn, 1) := by decide +kernel
theorem dX9_sum_40 : decode cX9_sum 40 = .ok (.aload_n 0, 1) := by decide +kernel
theorem dX9_sum_41 : decode cX9_sum 41 = .ok (.getfield 14, 3) := by decide +kernel
theorem dX9_sum_44 : decode cX9_sum 44 = .ok (.iload_n 1, 1) := by decide +kernel
theorem dX9_sum_45 : decode cX9_sum 45 = .ok (.iload_n 2, 1) := by decide +kernel
theorem dX9_sum_46 : decode cX9_sum 46 = .ok (.invokestatic 185, 3) := by decide +kernel
theorem dX9_sum_49 : decode cX9_sum 49 = .ok (.iconst 1, 1) := by decide +kernel
theorem dX9_sum_50 : decode cX9_sum 50 = .ok (.ireturn, 1) := by decide +kernel
theorem dX9_isOnTape_0 : decode cX9_isOnTape 0 = .ok (.iload_n 1, 1) := by decide +kernel
theorem dX9_isOnTape_1 : decode cX9_isOnTape 1 = .ok (.ifCond .lt 18, 3) := by decide +kernel
theorem dX9_isOnTape_4 : decode cX9_isOnTape 4 = .ok (.iload_n 1, 1) := by decide +kernel
theorem dX9_isOnTape_5 : decode cX9_isOnTape 5 = .ok (.aload_n 0, 1) := by decide +kernel
theorem dX9_isOnTape_6 : decode cX9_isOnTape 6 = .ok (.getfield 14, 3) := by decide +kernel
theorem dX9_isOnTape_9 : decode cX9_isOnTape 9 = .ok (.getfield 69, 3) := by decide +kernel
theorem dX9_isOnTape_12 : decode cX9_isOnTape 12 = .ok (.if_icmp .gt 7, 3) := by decide +kernel
theorem dX9_isOnTape_15 : decode cX9_isOnTape 15 = .ok (.iconst 1, 1) := by decide +kernel
theorem dX9_isOnTape_16 : decode cX9_isOnTape 16 = .ok (.goto 4, 3) := by decide +kernel
theorem dX9_isOnTape_19 : decode cX9_isOnTape 19 = .ok (.iconst 0, 1) := by decide +kernel
theorem dX9_isOnTape_20 : decode cX9_isOnTape 20 = .ok (.ireturn, 1) := by decide +kernel
theorem dX9_takeSpareRow_0 : decode cX9_takeSpareRow 0 = .ok (.aload_n 0, 1) := by decide +kernel
theorem dX9_takeSpareRow_1 : decode cX9_takeSpareRow 1 = .ok (.getfield 21, 3) := by decide +kernel
theorem dX9_takeSpareRow_4 : decode cX9_takeSpareRow 4 = .ok (.getfield 188, 3) := by decide +kernel
theorem dX9_takeSpareRow_7 : decode cX9_takeSpareRow 7 = .ok (.ifCond .eq 5, 3) := by decide +kernel
theorem dX9_takeSpareRow_10 : decode cX9_takeSpareRow 10 = .ok (.iconst (-1), 1) := by decide +kernel
theorem dX9_takeSpareRow_11 : decode cX9_takeSpareRow 11 = .ok (.ireturn, 1) := by decide +kernel
theorem dX9_takeSpareRow_12 : decode cX9_takeSpareRow 12 = .ok (.aload_n 0, 1) := by decide +kernel
theorem dX9_takeSpareRow_13 : decode cX9_takeSpareRow 13 = .ok (.getfield 18, 3) := by decide +kernel
theorem dX9_takeSpareRow_16 : decode cX9_takeSpareRow 16 = .ok (.astore_n 1, 1) := by decide +kernel
theorem dX9_takeSpareRow_17 : decode cX9_takeSpareRow 17 = .ok (.aload_n 0, 1) := by decide +kernel
theorem dX9_takeSpareRow_18 : decode cX9_takeSpareRow 18 = .ok (.aload_n 0, 1) := by decide +kernel
theorem dX9_takeSpareRow_19 : decode cX9_takeSpareRow 19 = .ok (.getfield 21, 3) := by decide +kernel
theorem dX9_takeSpareRow_22 : decode cX9_takeSpareRow 22 = .ok (.putfield 18, 3) := by decide +kernel
theorem dX9_takeSpareRow_25 : decode cX9_takeSpareRow 25 = .ok (.aload_n 0, 1) := by decide +kernel
theorem dX9_takeSpareRow_26 : decode cX9_takeSpareRow 26 = .ok (.aload_n 1, 1) := by decide +kernel
theorem dX9_takeSpareRow_27 : decode cX9_takeSpareRow 27 = .ok (.putfield 21, 3) := by decide +kernel
theorem dX9_takeSpareRow_30 : decode cX9_takeSpareRow 30 = .ok (.aload_n 0, 1) := by decide +kernel
theorem dX9_takeSpareRow_31 : decode cX9_takeSpareRow 31 = .ok (.getfield 18, 3) := by decide +kernel
theorem dX9_takeSpareRow_34 : decode cX9_takeSpareRow 34 = .ok (.getfield 69, 3) := by decide +kernel
theorem dX9_takeSpareRow_37 : decode cX9_takeSpareRow 37 = .ok (.ireturn, 1) := by decide +kernel
set_option maxRecDepth 20000 in
theorem ggX9_takeSpareList_X8_empty : GoodIn wsX9_takeSpareList wsX8_empty := goodIn_r _ [10, 11, 12, 31, 32, 33, 34] (by decide +kernel) (by decide +kernel)
set_option maxRecDepth 20000 in
theorem gX9_takeSpareList_X8_empty : GoodIn wsX9_takeSpareList (wsV RX9 99 RX8 yX8_empty wsX8_empty) := goodIn_app (goodIn_of _ (by decide +kernel)) ggX9_takeSpareList_X8_empty
theorem dX9_takeSpareList_0 : decode cX9_takeSpareList 0 = .ok (.aload_n 0, 1) := by decide +kernel
theorem dX9_takeSpareList_1 : decode cX9_takeSpareList 1 = .ok (.getfield 14, 3) := by decide +kernel
theorem dX9_takeSpareList_4 : decode cX9_takeSpareList 4 = .ok (.invokevirtual 99, 3) := by decide +kernel
theorem dX9_takeSpareList_7 : decode cX9_takeSpareList 7 = .ok (.aload_n 0, 1) := by decide +kernel
theorem dX9_takeSpareList_8 : decode cX9_takeSpareList 8 = .ok (.getfield 62, 3) := by decide +kernel
theorem dX9_takeSpareList_11 : decode cX9_takeSpareList 11 = .ok (.ifCond .eq 5, 3) := by decide +kernel
