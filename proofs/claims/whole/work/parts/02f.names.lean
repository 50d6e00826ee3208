theorem dX10_mayStand_306 : decode cX10_mayStand 306 = .ok (.if_icmp .eq 13, 3) := by decide +kernel
theorem dX10_mayStand_309 : decode cX10_mayStand 309 = .ok (.aload_n 0, 1) := by decide +kernel
theorem dX10_mayStand_310 : decode cX10_mayStand 310 = .ok (.getfield 191, 3) := by decide +kernel
theorem dX10_mayStand_313 : decode cX10_mayStand 313 = .ok (.sipush 155, 3) := by decide +kernel
theorem dX10_mayStand_316 : decode cX10_mayStand 316 = .ok (.if_icmp .ne 7, 3) := by decide +kernel
theorem dX10_mayStand_319 : decode cX10_mayStand 319 = .ok (.iconst 1, 1) := by decide +kernel
theorem dX10_mayStand_320 : decode cX10_mayStand 320 = .ok (.goto 4, 3) := by decide +kernel
theorem dX10_mayStand_323 : decode cX10_mayStand 323 = .ok (.iconst 0, 1) := by decide +kernel
theorem dX10_mayStand_324 : decode cX10_mayStand 324 = .ok (.ireturn, 1) := by decide +kernel
theorem dX10_bitOfHead_0 : decode cX10_bitOfHead 0 = .ok (.aload_n 0, 1) := by decide +kernel
theorem dX10_bitOfHead_1 : decode cX10_bitOfHead 1 = .ok (.getfield 191, 3) := by decide +kernel
theorem dX10_bitOfHead_4 : decode cX10_bitOfHead 4 = .ok (.sipush 17030, 3) := by decide +kernel
theorem dX10_bitOfHead_7 : decode cX10_bitOfHead 7 = .ok (.if_icmp .ne 7, 3) := by decide +kernel
theorem dX10_bitOfHead_10 : decode cX10_bitOfHead 10 = .ok (.iconst 1, 1) := by decide +kernel
theorem dX10_bitOfHead_11 : decode cX10_bitOfHead 11 = .ok (.goto 92, 3) := by decide +kernel
theorem dX10_bitOfHead_14 : decode cX10_bitOfHead 14 = .ok (.aload_n 0, 1) := by decide +kernel
theorem dX10_bitOfHead_15 : decode cX10_bitOfHead 15 = .ok (.getfield 191, 3) := by decide +kernel
theorem dX10_bitOfHead_18 : decode cX10_bitOfHead 18 = .ok (.sipush 17143, 3) := by decide +kernel
theorem dX10_bitOfHead_21 : decode cX10_bitOfHead 21 = .ok (.if_icmp .ne 7, 3) := by decide +kernel
theorem dX10_bitOfHead_24 : decode cX10_bitOfHead 24 = .ok (.iconst 2, 1) := by decide +kernel
theorem dX10_bitOfHead_25 : decode cX10_bitOfHead 25 = .ok (.goto 78, 3) := by decide +kernel
theorem dX10_bitOfHead_28 : decode cX10_bitOfHead 28 = .ok (.aload_n 0, 1) := by decide +kernel
theorem dX10_bitOfHead_29 : decode cX10_bitOfHead 29 = .ok (.getfield 191, 3) := by decide +kernel
theorem dX10_bitOfHead_32 : decode cX10_bitOfHead 32 = .ok (.sipush 17138, 3) := by decide +kernel
theorem dX10_bitOfHead_35 : decode cX10_bitOfHead 35 = .ok (.if_icmp .ne 7, 3) := by decide +kernel
theorem dX10_bitOfHead_38 : decode cX10_bitOfHead 38 = .ok (.iconst 4, 1) := by decide +kernel
theorem dX10_bitOfHead_39 : decode cX10_bitOfHead 39 = .ok (.goto 64, 3) := by decide +kernel
theorem dX10_bitOfHead_42 : decode cX10_bitOfHead 42 = .ok (.aload_n 0, 1) := by decide +kernel
theorem dX10_bitOfHead_43 : decode cX10_bitOfHead 43 = .ok (.getfield 191, 3) := by decide +kernel
theorem dX10_bitOfHead_46 : decode cX10_bitOfHead 46 = .ok (.sipush 17139, 3) := by decide +kernel
theorem dX10_bitOfHead_49 : decode cX10_bitOfHead 49 = .ok (.if_icmp .ne 8, 3) := by decide +kernel
theorem dX10_bitOfHead_52 : decode cX10_bitOfHead 52 = .ok (.bipush 8, 2) := by decide +kernel
theorem dX10_bitOfHead_54 : decode cX10_bitOfHead 54 = .ok (.goto 49, 3) := by decide +kernel
theorem dX10_bitOfHead_57 : decode cX10_bitOfHead 57 = .ok (.aload_n 0, 1) := by decide +kernel
theorem dX10_bitOfHead_58 : decode cX10_bitOfHead 58 = .ok (.getfield 191, 3) := by decide +kernel
theorem dX10_bitOfHead_61 : decode cX10_bitOfHead 61 = .ok (.sipush 17026, 3) := by decide +kernel
theorem dX10_bitOfHead_64 : decode cX10_bitOfHead 64 = .ok (.if_icmp .ne 8, 3) := by decide +kernel
theorem dX10_bitOfHead_67 : decode cX10_bitOfHead 67 = .ok (.bipush 16, 2) := by decide +kernel
theorem dX10_bitOfHead_69 : decode cX10_bitOfHead 69 = .ok (.goto 34, 3) := by decide +kernel
theorem dX10_bitOfHead_72 : decode cX10_bitOfHead 72 = .ok (.aload_n 0, 1) := by decide +kernel
theorem dX10_bitOfHead_73 : decode cX10_bitOfHead 73 = .ok (.getfield 191, 3) := by decide +kernel
theorem dX10_bitOfHead_76 : decode cX10_bitOfHead 76 = .ok (.sipush 17031, 3) := by decide +kernel
theorem dX10_bitOfHead_79 : decode cX10_bitOfHead 79 = .ok (.if_icmp .ne 8, 3) := by decide +kernel
theorem dX10_bitOfHead_82 : decode cX10_bitOfHead 82 = .ok (.bipush 32, 2) := by decide +kernel
theorem dX10_bitOfHead_84 : decode cX10_bitOfHead 84 = .ok (.goto 19, 3) := by decide +kernel
theorem dX10_bitOfHead_87 : decode cX10_bitOfHead 87 = .ok (.aload_n 0, 1) := by decide +kernel
theorem dX10_bitOfHead_88 : decode cX10_bitOfHead 88 = .ok (.getfield 191, 3) := by decide +kernel
theorem dX10_bitOfHead_91 : decode cX10_bitOfHead 91 = .ok (.sipush 17029, 3) := by decide +kernel
theorem dX10_bitOfHead_94 : decode cX10_bitOfHead 94 = .ok (.if_icmp .ne 8, 3) := by decide +kernel
theorem dX10_bitOfHead_97 : decode cX10_bitOfHead 97 = .ok (.bipush 64, 2) := by decide +kernel
theorem dX10_bitOfHead_99 : decode cX10_bitOfHead 99 = .ok (.goto 4, 3) := by decide +kernel
theorem dX10_bitOfHead_102 : decode cX10_bitOfHead 102 = .ok (.iconst 0, 1) := by decide +kernel
theorem dX10_bitOfHead_103 : decode cX10_bitOfHead 103 = .ok (.ireturn, 1) := by decide +kernel
set_option maxRecDepth 20000 in
theorem ggX10_bit_X10_bitOfHead : GoodIn wsX10_bit wsX10_bitOfHead := goodIn_r _ [11, 1, 12, 13, 14, 15, 16, 17, 18, 19, 20, 21, 22, 23, 24, 25, 26, 27, 28, 29, 30, 31, 32, 33, 34, 35, 36, 37, 38, 39, 40, 41, 42, 43, 44, 45, 46, 47, 48, 49, 50, 51, 52, 53, 54, 55, 56, 57] (by decide +kernel) (by decide +kernel)
set_option maxRecDepth 20000 in
theorem gX10_bit_X10_bitOfHead : GoodIn wsX10_bit (wsV RX10 214 RX10 yX10_bitOfHead wsX10_bitOfHead) := goodIn_app (goodIn_of _ (by decide +kernel)) ggX10_bit_X10_bitOfHead
theorem dX10_bit_0 : decode cX10_bit 0 = .ok (.iload_n 1, 1) := by decide +kernel
theorem dX10_bit_1 : decode cX10_bit 1 = .ok (.tableswitch 253 0 6 #[43, 71, 76, 104, 147, 163, 237], 43) := by decide +kernel
theorem dX10_bit_44 : decode cX10_bit 44 = .ok (.aload_n 0, 1) := by decide +kernel
theorem dX10_bit_45 : decode cX10_bit 45 = .ok (.getfield 191, 3) := by decide +kernel
theorem dX10_bit_48 : decode cX10_bit 48 = .ok (.ldc 213, 2) := by decide +kernel
theorem dX10_bit_50 : decode cX10_bit 50 = .ok (.if_icmp .ne 7, 3) := by decide +kernel
theorem dX10_bit_53 : decode cX10_bit 53 = .ok (.iconst 1, 1) := by decide +kernel
theorem dX10_bit_54 : decode cX10_bit 54 = .ok (.goto 17, 3) := by decide +kernel
theorem dX10_bit_57 : decode cX10_bit 57 = .ok (.aload_n 0, 1) := by decide +kernel
theorem dX10_bit_58 : decode cX10_bit 58 = .ok (.getfield 191, 3) := by decide +kernel
theorem dX10_bit_61 : decode cX10_bit 61 = .ok (.ldc 206, 2) := by decide +kernel
theorem dX10_bit_63 : decode cX10_bit 63 = .ok (.if_icmp .ne 7, 3) := by decide +kernel
theorem dX10_bit_66 : decode cX10_bit 66 = .ok (.iconst 2, 1) := by decide +kernel
theorem dX10_bit_67 : decode cX10_bit 67 = .ok (.goto 4, 3) := by decide +kernel
theorem dX10_bit_70 : decode cX10_bit 70 = .ok (.iconst 0, 1) := by decide +kernel
theorem dX10_bit_71 : decode cX10_bit 71 = .ok (.ireturn, 1) := by decide +kernel
theorem dX10_bit_72 : decode cX10_bit 72 = .ok (.aload_n 0, 1) := by decide +kernel
theorem dX10_bit_73 : decode cX10_bit 73 = .ok (.invokevirtual 214, 3) := by decide +kernel
theorem dX10_bit_76 : decode cX10_bit 76 = .ok (.ireturn, 1) := by decide +kernel
theorem dX10_bit_77 : decode cX10_bit 77 = .ok (.aload_n 0, 1) := by decide +kernel
theorem dX10_bit_78 : decode cX10_bit 78 = .ok (.getfield 191, 3) := by decide +kernel
theorem dX10_bit_81 : decode cX10_bit 81 = .ok (.ldc 217, 2) := by decide +kernel
theorem dX10_bit_83 : decode cX10_bit 83 = .ok (.if_icmp .ne 7, 3) := by decide +kernel
theorem dX10_bit_86 : decode cX10_bit 86 = .ok (.iconst 1, 1) := by decide +kernel
theorem dX10_bit_87 : decode cX10_bit 87 = .ok (.goto 17, 3) := by decide +kernel
theorem dX10_bit_90 : decode cX10_bit 90 = .ok (.aload_n 0, 1) := by decide +kernel
theorem dX10_bit_91 : decode cX10_bit 91 = .ok (.getfield 191, 3) := by decide +kernel
theorem dX10_bit_94 : decode cX10_bit 94 = .ok (.ldc 218, 2) := by decide +kernel
theorem dX10_bit_96 : decode cX10_bit 96 = .ok (.if_icmp .ne 7, 3) := by decide +kernel
theorem dX10_bit_99 : decode cX10_bit 99 = .ok (.iconst 2, 1) := by decide +kernel
theorem dX10_bit_100 : decode cX10_bit 100 = .ok (.goto 4, 3) := by decide +kernel
theorem dX10_bit_103 : decode cX10_bit 103 = .ok (.iconst 0, 1) := by decide +kernel
theorem dX10_bit_104 : decode cX10_bit 104 = .ok (.ireturn, 1) := by decide +kernel
theorem dX10_bit_105 : decode cX10_bit 105 = .ok (.aload_n 0, 1) := by decide +kernel
theorem dX10_bit_106 : decode cX10_bit 106 = .ok (.getfield 191, 3) := by decide +kernel
theorem dX10_bit_109 : decode cX10_bit 109 = .ok (.ldc 219, 2) := by decide +kernel
theorem dX10_bit_111 : decode cX10_bit 111 = .ok (.if_icmp .ne 7, 3) := by decide +kernel
theorem dX10_bit_114 : decode cX10_bit 114 = .ok (.iconst 1, 1) := by decide +kernel
theorem dX10_bit_115 : decode cX10_bit 115 = .ok (.goto 32, 3) := by decide +kernel
theorem dX10_bit_118 : decode cX10_bit 118 = .ok (.aload_n 0, 1) := by decide +kernel
theorem dX10_bit_119 : decode cX10_bit 119 = .ok (.getfield 191, 3) := by decide +kernel
theorem dX10_bit_122 : decode cX10_bit 122 = .ok (.sipush 19840, 3) := by decide +kernel
theorem dX10_bit_125 : decode cX10_bit 125 = .ok (.if_icmp .ne 7, 3) := by decide +kernel
theorem dX10_bit_128 : decode cX10_bit 128 = .ok (.iconst 2, 1) := by decide +kernel
theorem dX10_bit_129 : decode cX10_bit 129 = .ok (.goto 18, 3) := by decide +kernel
theorem dX10_bit_132 : decode cX10_bit 132 = .ok (.aload_n 0, 1) := by decide +kernel
theorem dX10_bit_133 : decode cX10_bit 133 = .ok (.getfield 191, 3) := by decide +kernel
theorem dX10_bit_136 : decode cX10_bit 136 = .ok (.sipush 22337, 3) := by decide +kernel
theorem dX10_bit_139 : decode cX10_bit 139 = .ok (.if_icmp .ne 7, 3) := by decide +kernel
theorem dX10_bit_142 : decode cX10_bit 142 = .ok (.iconst 4, 1) := by decide +kernel
theorem dX10_bit_143 : decode cX10_bit 143 = .ok (.goto 4, 3) := by decide +kernel
theorem dX10_bit_146 : decode cX10_bit 146 = .ok (.iconst 0, 1) := by decide +kernel
theorem dX10_bit_147 : decode cX10_bit 147 = .ok (.ireturn, 1) := by decide +kernel
theorem dX10_bit_148 : decode cX10_bit 148 = .ok (.aload_n 0, 1) := by decide +kernel
theorem dX10_bit_149 : decode cX10_bit 149 = .ok (.getfield 191, 3) := by decide +kernel
theorem dX10_bit_152 : decode cX10_bit 152 = .ok (.sipush 174, 3) := by decide +kernel
theorem dX10_bit_155 : decode cX10_bit 155 = .ok (.if_icmp .ne 7, 3) := by decide +kernel
theorem dX10_bit_158 : decode cX10_bit 158 = .ok (.iconst 1, 1) := by decide +kernel
theorem dX10_bit_159 : decode cX10_bit 159 = .ok (.goto 4, 3) := by decide +kernel
theorem dX10_bit_162 : decode cX10_bit 162 = .ok (.iconst 0, 1) := by decide +kernel
theorem dX10_bit_163 : decode cX10_bit 163 = .ok (.ireturn, 1) := by decide +kernel
theorem dX10_bit_164 : decode cX10_bit 164 = .ok (.aload_n 0, 1) := by decide +kernel
theorem dX10_bit_165 : decode cX10_bit 165 = .ok (.getfield 191, 3) := by decide +kernel
theorem dX10_bit_168 : decode cX10_bit 168 = .ok (.sipush 215, 3) := by decide +kernel
theorem dX10_bit_171 : decode cX10_bit 171 = .ok (.if_icmp .ne 7, 3) := by decide +kernel
theorem dX10_bit_174 : decode cX10_bit 174 = .ok (.iconst 1, 1) := by decide +kernel
theorem dX10_bit_175 : decode cX10_bit 175 = .ok (.goto 62, 3) := by decide +kernel
theorem dX10_bit_178 : decode cX10_bit 178 = .ok (.aload_n 0, 1) := by decide +kernel
theorem dX10_bit_179 : decode cX10_bit 179 = .ok (.getfield 191, 3) := by decide +kernel
theorem dX10_bit_182 : decode cX10_bit 182 = .ok (.sipush 131, 3) := by decide +kernel
theorem dX10_bit_185 : decode cX10_bit 185 = .ok (.if_icmp .ne 7, 3) := by decide +kernel
theorem dX10_bit_188 : decode cX10_bit 188 = .ok (.iconst 2, 1) := by decide +kernel
theorem dX10_bit_189 : decode cX10_bit 189 = .ok (.goto 48, 3) := by decide +kernel
theorem dX10_bit_192 : decode cX10_bit 192 = .ok (.aload_n 0, 1) := by decide +kernel
theorem dX10_bit_193 : decode cX10_bit 193 = .ok (.getfield 191, 3) := by decide +kernel
theorem dX10_bit_196 : decode cX10_bit 196 = .ok (.sipush 134, 3) := by decide +kernel
theorem dX10_bit_199 : decode cX10_bit 199 = .ok (.if_icmp .ne 7, 3) := by decide +kernel
theorem dX10_bit_202 : decode cX10_bit 202 = .ok (.iconst 4, 1) := by decide +kernel
theorem dX10_bit_203 : decode cX10_bit 203 = .ok (.goto 34, 3) := by decide +kernel
theorem dX10_bit_206 : decode cX10_bit 206 = .ok (.aload_n 0, 1) := by decide +kernel
theorem dX10_bit_207 : decode cX10_bit 207 = .ok (.getfield 191, 3) := by decide +kernel
theorem dX10_bit_210 : decode cX10_bit 210 = .ok (.sipush 29637, 3) := by decide +kernel
theorem dX10_bit_213 : decode cX10_bit 213 = .ok (.if_icmp .ne 8, 3) := by decide +kernel
theorem dX10_bit_216 : decode cX10_bit 216 = .ok (.bipush 8, 2) := by decide +kernel
theorem dX10_bit_218 : decode cX10_bit 218 = .ok (.goto 19, 3) := by decide +kernel
theorem dX10_bit_221 : decode cX10_bit 221 = .ok (.aload_n 0, 1) := by decide +kernel
theorem dX10_bit_222 : decode cX10_bit 222 = .ok (.getfield 191, 3) := by decide +kernel
theorem dX10_bit_225 : decode cX10_bit 225 = .ok (.sipush 156, 3) := by decide +kernel
theorem dX10_bit_228 : decode cX10_bit 228 = .ok (.if_icmp .ne 8, 3) := by decide +kernel
theorem dX10_bit_231 : decode cX10_bit 231 = .ok (.bipush 16, 2) := by decide +kernel
theorem dX10_bit_233 : decode cX10_bit 233 = .ok (.goto 4, 3) := by decide +kernel
theorem dX10_bit_236 : decode cX10_bit 236 = .ok (.iconst 0, 1) := by decide +kernel
theorem dX10_bit_237 : decode cX10_bit 237 = .ok (.ireturn, 1) := by decide +kernel
theorem dX10_bit_238 : decode cX10_bit 238 = .ok (.aload_n 0, 1) := by decide +kernel
theorem dX10_bit_239 : decode cX10_bit 239 = .ok (.getfield 191, 3) := by decide +kernel
theorem dX10_bit_242 : decode cX10_bit 242 = .ok (.sipush 231, 3) := by decide +kernel
theorem dX10_bit_245 : decode cX10_bit 245 = .ok (.if_icmp .ne 7, 3) := by decide +kernel
theorem dX10_bit_248 : decode cX10_bit 248 = .ok (.iconst 1, 1) := by decide +kernel
theorem dX10_bit_249 : decode cX10_bit 249 = .ok (.goto 4, 3) := by decide +kernel
theorem dX10_bit_252 : decode cX10_bit 252 = .ok (.iconst 0, 1) := by decide +kernel
theorem dX10_bit_253 : decode cX10_bit 253 = .ok (.ireturn, 1) := by decide +kernel
theorem dX10_bit_254 : decode cX10_bit 254 = .ok (.aload_n 0, 1) := by decide +kernel
theorem dX10_bit_255 : decode cX10_bit 255 = .ok (.getfield 191, 3) := by decide +kernel
theorem dX10_bit_258 : decode cX10_bit 258 = .ok (.sipush 161, 3) := by decide +kernel
theorem dX10_bit_261 : decode cX10_bit 261 = .ok (.if_icmp .ne 7, 3) := by decide +kernel
theorem dX10_bit_264 : decode cX10_bit 264 = .ok (.iconst 1, 1) := by decide +kernel
theorem dX10_bit_265 : decode cX10_bit 265 = .ok (.goto 18, 3) := by decide +kernel
theorem dX10_bit_268 : decode cX10_bit 268 = .ok (.aload_n 0, 1) := by decide +kernel
theorem dX10_bit_269 : decode cX10_bit 269 = .ok (.getfield 191, 3) := by decide +kernel
theorem dX10_bit_272 : decode cX10_bit 272 = .ok (.sipush 155, 3) := by decide +kernel
theorem dX10_bit_275 : decode cX10_bit 275 = .ok (.if_icmp .ne 7, 3) := by decide +kernel
theorem dX10_bit_278 : decode cX10_bit 278 = .ok (.iconst 2, 1) := by decide +kernel
theorem dX10_bit_279 : decode cX10_bit 279 = .ok (.goto 4, 3) := by decide +kernel
theorem dX10_bit_282 : decode cX10_bit 282 = .ok (.iconst 0, 1) := by decide +kernel
theorem dX10_bit_283 : decode cX10_bit 283 = .ok (.ireturn, 1) := by decide +kernel
set_option maxRecDepth 20000 in
theorem ggX10_elements_X10_isCluster : GoodIn wsX10_elements wsX10_isCluster := goodIn_r _ [13, 14, 15, 16, 12, 17, 18, 112, 113, 114, 115, 116, 117, 118, 119, 120, 121, 122, 123, 124, 125, 126, 127, 128, 129, 130, 131, 132, 133, 134, 135, 136, 137, 138, 139, 140, 141, 142, 143, 144, 145, 146, 147, 148, 149, 150, 151, 152, 153, 154, 155, 156, 157] (by decide +kernel) (by decide +kernel)
set_option maxRecDepth 20000 in
theorem gX10_elements_X10_isCluster : GoodIn wsX10_elements (wsV RX10 220 RX10 yX10_isCluster wsX10_isCluster) := goodIn_app (goodIn_of _ (by decide +kernel)) ggX10_elements_X10_isCluster
set_option maxRecDepth 20000 in
theorem ggX10_elements_X10_name : GoodIn wsX10_elements wsX10_name := goodIn_r _ [22, 1, 7, 14, 15, 16, 12, 17, 18, 23, 24, 25, 26, 27, 28, 29, 30, 31, 32, 33, 34, 35, 36, 37, 2, 38, 39, 40, 41, 42, 43, 44, 112, 113, 114, 115, 116, 117, 118, 119, 120, 121, 122, 123, 124, 125, 126, 127, 128, 129, 130, 131, 132, 133, 134, 135, 136, 137, 138, 139, 140, 141, 142, 143, 144, 145, 146, 147, 148, 149, 150, 151, 152, 153, 154, 155, 156, 157] (by decide +kernel) (by decide +kernel)
set_option maxRecDepth 20000 in
theorem gX10_elements_X10_name : GoodIn wsX10_elements (wsV RX10 223 RX10 yX10_name wsX10_name) := goodIn_app (goodIn_of _ (by decide +kernel)) ggX10_elements_X10_name
set_option maxRecDepth 20000 in
theorem ggX10_elements_X10_head : GoodIn wsX10_elements wsX10_head := goodIn_r _ [48, 7, 49, 4, 1, 37, 2, 50, 3, 23, 24, 25, 12, 26, 27, 28, 14, 15, 16, 17, 18, 29, 30, 31, 51, 52, 53, 54, 112, 113, 114, 115, 116, 117, 118, 119, 120, 121, 122, 123, 124, 125, 126, 127, 128, 129, 130, 131, 132, 133, 134, 135, 136, 137, 138, 139, 140, 141, 142, 143, 144, 145, 146, 147, 148, 149, 150, 151, 152, 153, 154, 155, 156, 157] (by decide +kernel) (by decide +kernel)
set_option maxRecDepth 20000 in
theorem gX10_elements_X10_head : GoodIn wsX10_elements (wsV RX10 227 RX10 yX10_head wsX10_head) := goodIn_app (goodIn_of _ (by decide +kernel)) ggX10_elements_X10_head
set_option maxRecDepth 20000 in
theorem ggX10_elements_X10_bit : GoodIn wsX10_elements wsX10_bit := goodIn_r _ [58, 1, 36, 37, 38, 39, 40, 41, 42, 43, 12, 44, 112, 113, 114, 115, 116, 117, 118, 119, 120, 121, 122, 123, 124, 125, 126, 127, 128, 129, 130, 131, 132, 133, 134, 135, 136, 137, 138, 139, 140, 141, 142, 143, 144, 145, 146, 147, 148, 149, 150, 151, 152, 153, 154, 155, 156, 157] (by decide +kernel) (by decide +kernel)
set_option maxRecDepth 20000 in
theorem gX10_elements_X10_bit : GoodIn wsX10_elements (wsV RX10 231 RX10 yX10_bit wsX10_bit) := goodIn_app (goodIn_of _ (by decide +kernel)) ggX10_elements_X10_bit
set_option maxRecDepth 20000 in
theorem ggX10_elements_X10_fails : GoodIn wsX10_elements wsX10_fails := goodIn_r _ [26, 27, 28, 112, 113, 114, 115, 116, 117, 118, 119, 120, 121, 122, 123, 124, 125, 126, 127, 128, 129, 130, 131, 132, 133, 134, 135, 136, 137, 138, 139, 140, 141, 142, 143, 144, 145, 146, 147, 148, 149, 150, 151, 152, 153, 154, 155, 156, 157] (by decide +kernel) (by decide +kernel)
set_option maxRecDepth 20000 in
theorem gX10_elements_X10_fails : GoodIn wsX10_elements (wsV RX10 151 RX10 yX10_fails wsX10_fails) := goodIn_app (goodIn_of _ (by decide +kernel)) ggX10_elements_X10_fails
set_option maxRecDepth 20000 in
theorem ggX10_elements_X10_sortOf : GoodIn wsX10_elements wsX10_sortOf := goodIn_r _ [62, 1, 112, 113, 114, 115, 116, 117, 118, 119, 120, 121, 122, 123, 124, 125, 126, 127, 128, 129, 130, 131, 132, 133, 134, 135, 136, 137, 138, 139, 140, 141, 142, 143, 144, 145, 146, 147, 148, 149, 150, 151, 152, 153, 154, 155, 156, 157] (by decide +kernel) (by decide +kernel)
set_option maxRecDepth 20000 in
theorem gX10_elements_X10_sortOf : GoodIn wsX10_elements (wsV RX10 234 RX10 yX10_sortOf wsX10_sortOf) := goodIn_app (goodIn_of _ (by decide +kernel)) ggX10_elements_X10_sortOf
set_option maxRecDepth 20000 in
theorem ggX10_elements_X10_plain : GoodIn wsX10_elements wsX10_plain := goodIn_r _ [66, 67, 1, 68, 69, 70, 71, 72, 3, 7, 73, 5, 74, 75, 76, 77, 12, 78, 79, 80, 81, 82, 49, 83, 14, 15, 16, 17, 18, 23, 24, 25, 26, 27, 28, 84, 85, 86, 87, 88, 89, 90, 91, 92, 93, 94, 95, 96, 97, 98, 99, 29, 30, 31, 51, 52, 53, 54, 100, 101, 102, 103, 104, 112, 113, 114, 115, 116, 117, 118, 119, 120, 121, 122, 123, 124, 125, 126, 127, 128, 129, 130, 131, 132, 133, 134, 135, 136, 137, 138, 139, 140, 141, 142, 143, 144, 145, 146, 147, 148, 149, 150, 151, 152, 153, 154, 155, 156, 157] (by decide +kernel) (by decide +kernel)
set_option maxRecDepth 20000 in
theorem gX10_elements_X10_plain : GoodIn wsX10_elements (wsV RX10 237 RX10 yX10_plain wsX10_plain) := goodIn_app (goodIn_of _ (by decide +kernel)) ggX10_elements_X10_plain
set_option maxRecDepth 20000 in
theorem ggX10_elements_X10_elements : GoodIn wsX10_elements wsX10_elements := goodIn_r _ [0, 1, 2, 3, 4, 5, 6, 7, 8, 9, 10, 11, 12, 13, 14, 15, 16, 17, 18, 19, 20, 21, 22, 23, 24, 25, 26, 27, 28, 29, 30, 31, 32, 33, 34, 35, 36, 37, 38, 39, 40, 41, 42, 43, 44, 45, 46, 47, 48, 49, 50, 51, 52, 53, 54, 55, 56, 57, 58, 59, 60, 61, 62, 63, 64, 65, 66, 67, 68, 69, 70, 71, 72, 73, 74, 75, 76, 77, 78, 79, 80, 81, 82, 83, 84, 85, 86, 87, 88, 89, 90, 91, 92, 93, 94, 95, 96, 97, 98, 99, 100, 101, 102, 103, 104, 105, 106, 107, 108, 109, 110, 111, 112, 113, 114, 115, 116, 117, 118, 119, 120, 121, 122, 123, 124, 125, 126, 127, 128, 129, 130, 131, 132, 133, 134, 135, 136, 137, 138, 139, 140, 141, 142, 143, 144, 145, 146, 147, 148, 149, 150, 151, 152, 153, 154, 155, 156, 157] (by decide +kernel) (by decide +kernel)
set_option maxRecDepth 20000 in
theorem gX10_elements_X10_elements : GoodIn wsX10_elements (wsV RX10 246 RX10 yX10_elements wsX10_elements) := goodIn_app (goodIn_of _ (by decide +kernel)) ggX10_elements_X10_elements
set_option maxRecDepth 20000 in
theorem ggX10_elements_X10_has : GoodIn wsX10_elements wsX10_has := goodIn_r _ [111, 5, 23, 24, 25, 12, 26, 27, 28, 112, 113, 114, 115, 116, 117, 118, 119, 120, 121, 122, 123, 124, 125, 126, 127, 128, 129, 130, 131, 132, 133, 134, 135, 136, 137, 138, 139, 140, 141, 142, 143, 144, 145, 146, 147, 148, 149, 150, 151, 152, 153, 154, 155, 156, 157] (by decide +kernel) (by decide +kernel)
set_option maxRecDepth 20000 in
theorem gX10_elements_X10_has : GoodIn wsX10_elements (wsV RX10 253 RX10 yX10_has wsX10_has) := goodIn_app (goodIn_of _ (by decide +kernel)) ggX10_elements_X10_has
theorem dX10_elements_0 : decode cX10_elements 0 = .ok (.iconst 0, 1) := by decide +kernel
theorem dX10_elements_1 : decode cX10_elements 1 = .ok (.istore 6, 2) := by decide +kernel
theorem dX10_elements_3 : decode cX10_elements 3 = .ok (.iload_n 2, 1) := by decide +kernel
theorem dX10_elements_4 : decode cX10_elements 4 = .ok (.istore 7, 2) := by decide +kernel
theorem dX10_elements_6 : decode cX10_elements 6 = .ok (.iload 7, 2) := by decide +kernel
theorem dX10_elements_8 : decode cX10_elements 8 = .ok (.iload_n 3, 1) := by decide +kernel
theorem dX10_elements_9 : decode cX10_elements 9 = .ok (.if_icmp .ge 223, 3) := by decide +kernel
theorem dX10_elements_12 : decode cX10_elements 12 = .ok (.iload 5, 2) := by decide +kernel
theorem dX10_elements_14 : decode cX10_elements 14 = .ok (.ifCond .eq 16, 3) := by decide +kernel
theorem dX10_elements_17 : decode cX10_elements 17 = .ok (.aload_n 0, 1) := by decide +kernel
theorem dX10_elements_18 : decode cX10_elements 18 = .ok (.iload 7, 2) := by decide +kernel
theorem dX10_elements_20 : decode cX10_elements 20 = .ok (.iload_n 3, 1) := by decide +kernel
theorem dX10_elements_21 : decode cX10_elements 21 = .ok (.invokevirtual 220, 3) := by decide +kernel
theorem dX10_elements_24 : decode cX10_elements 24 = .ok (.ifCond .eq 6, 3) := by decide +kernel
theorem dX10_elements_27 : decode cX10_elements 27 = .ok (.goto 205, 3) := by decide +kernel
theorem dX10_elements_30 : decode cX10_elements 30 = .ok (.aload_n 0, 1) := by decide +kernel
theorem dX10_elements_31 : decode cX10_elements 31 = .ok (.iload 7, 2) := by decide +kernel
theorem dX10_elements_33 : decode cX10_elements 33 = .ok (.iload_n 3, 1) := by decide +kernel
theorem dX10_elements_34 : decode cX10_elements 34 = .ok (.iload 4, 2) := by decide +kernel
theorem dX10_elements_36 : decode cX10_elements 36 = .ok (.iload 6, 2) := by decide +kernel
theorem dX10_elements_38 : decode cX10_elements 38 = .ok (.invokevirtual 223, 3) := by decide +kernel
theorem dX10_elements_41 : decode cX10_elements 41 = .ok (.ifCond .eq 15, 3) := by decide +kernel
theorem dX10_elements_44 : decode cX10_elements 44 = .ok (.aload_n 0, 1) := by decide +kernel
theorem dX10_elements_45 : decode cX10_elements 45 = .ok (.iload 7, 2) := by decide +kernel
theorem dX10_elements_47 : decode cX10_elements 47 = .ok (.iload_n 3, 1) := by decide +kernel
theorem dX10_elements_48 : decode cX10_elements 48 = .ok (.iload 4, 2) := by decide +kernel
theorem dX10_elements_50 : decode cX10_elements 50 = .ok (.invokevirtual 227, 3) := by decide +kernel
theorem dX10_elements_53 : decode cX10_elements 53 = .ok (.ifCond .ne 5, 3) := by decide +kernel
theorem dX10_elements_56 : decode cX10_elements 56 = .ok (.iconst 0, 1) := by decide +kernel
theorem dX10_elements_57 : decode cX10_elements 57 = .ok (.ireturn, 1) := by decide +kernel
theorem dX10_elements_58 : decode cX10_elements 58 = .ok (.aload_n 0, 1) := by decide +kernel
theorem dX10_elements_59 : decode cX10_elements 59 = .ok (.iload 4, 2) := by decide +kernel
theorem dX10_elements_61 : decode cX10_elements 61 = .ok (.invokevirtual 231, 3) := by decide +kernel
theorem dX10_elements_64 : decode cX10_elements 64 = .ok (.istore 8, 2) := by decide +kernel
theorem dX10_elements_66 : decode cX10_elements 66 = .ok (.iload 8, 2) := by decide +kernel
theorem dX10_elements_68 : decode cX10_elements 68 = .ok (.ifCond .eq 19, 3) := by decide +kernel
theorem dX10_elements_71 : decode cX10_elements 71 = .ok (.iload 6, 2) := by decide +kernel
theorem dX10_elements_73 : decode cX10_elements 73 = .ok (.iload 8, 2) := by decide +kernel
theorem dX10_elements_75 : decode cX10_elements 75 = .ok (.iand, 1) := by decide +kernel
theorem dX10_elements_76 : decode cX10_elements 76 = .ok (.ifCond .eq 11, 3) := by decide +kernel
theorem dX10_elements_79 : decode cX10_elements 79 = .ok (.aload_n 0, 1) := by decide +kernel
theorem dX10_elements_80 : decode cX10_elements 80 = .ok (.iconst 4, 1) := by decide +kernel
theorem dX10_elements_81 : decode cX10_elements 81 = .ok (.iload 7, 2) := by decide +kernel
theorem dX10_elements_83 : decode cX10_elements 83 = .ok (.invokevirtual 151, 3) := by decide +kernel
theorem dX10_elements_86 : decode cX10_elements 86 = .ok (.ireturn, 1) := by decide +kernel
theorem dX10_elements_87 : decode cX10_elements 87 = .ok (.iload 6, 2) := by decide +kernel
theorem dX10_elements_89 : decode cX10_elements 89 = .ok (.iload 8, 2) := by decide +kernel
theorem dX10_elements_91 : decode cX10_elements 91 = .ok (.ior, 1) := by decide +kernel
theorem dX10_elements_92 : decode cX10_elements 92 = .ok (.istore 6, 2) := by decide +kernel
theorem dX10_elements_94 : decode cX10_elements 94 = .ok (.aload_n 0, 1) := by decide +kernel
theorem dX10_elements_95 : decode cX10_elements 95 = .ok (.getfield 191, 3) := by decide +kernel
theorem dX10_elements_98 : decode cX10_elements 98 = .ok (.ldc 207, 2) := by decide +kernel
theorem dX10_elements_100 : decode cX10_elements 100 = .ok (.if_icmp .ne 9, 3) := by decide +kernel
theorem dX10_elements_103 : decode cX10_elements 103 = .ok (.iload 6, 2) := by decide +kernel
theorem dX10_elements_105 : decode cX10_elements 105 = .ok (.iconst 4, 1) := by decide +kernel
theorem dX10_elements_106 : decode cX10_elements 106 = .ok (.ior, 1) := by decide +kernel
theorem dX10_elements_107 : decode cX10_elements 107 = .ok (.istore 6, 2) := by decide +kernel
theorem dX10_elements_109 : decode cX10_elements 109 = .ok (.aload_n 0, 1) := by decide +kernel
theorem dX10_elements_110 : decode cX10_elements 110 = .ok (.getfield 210, 3) := by decide +kernel
theorem dX10_elements_113 : decode cX10_elements 113 = .ok (.istore 9, 2) := by decide +kernel
theorem dX10_elements_115 : decode cX10_elements 115 = .ok (.aload_n 0, 1) := by decide +kernel
theorem dX10_elements_116 : decode cX10_elements 116 = .ok (.getfield 191, 3) := by decide +kernel
theorem dX10_elements_119 : decode cX10_elements 119 = .ok (.sipush 236, 3) := by decide +kernel
theorem dX10_elements_122 : decode cX10_elements 122 = .ok (.if_icmp .eq 103, 3) := by decide +kernel
theorem dX10_elements_125 : decode cX10_elements 125 = .ok (.aload_n 0, 1) := by decide +kernel
theorem dX10_elements_126 : decode cX10_elements 126 = .ok (.invokevirtual 234, 3) := by decide +kernel
theorem dX10_elements_129 : decode cX10_elements 129 = .ok (.istore 10, 2) := by decide +kernel
theorem dX10_elements_131 : decode cX10_elements 131 = .ok (.iload 10, 2) := by decide +kernel
theorem dX10_elements_133 : decode cX10_elements 133 = .ok (.iconst (-1), 1) := by decide +kernel
theorem dX10_elements_134 : decode cX10_elements 134 = .ok (.if_icmp .ne 14, 3) := by decide +kernel
theorem dX10_elements_137 : decode cX10_elements 137 = .ok (.aload_n 0, 1) := by decide +kernel
theorem dX10_elements_138 : decode cX10_elements 138 = .ok (.iload 7, 2) := by decide +kernel
theorem dX10_elements_140 : decode cX10_elements 140 = .ok (.invokevirtual 237, 3) := by decide +kernel
theorem dX10_elements_143 : decode cX10_elements 143 = .ok (.ifCond .ne 82, 3) := by decide +kernel
theorem dX10_elements_146 : decode cX10_elements 146 = .ok (.iconst 0, 1) := by decide +kernel
theorem dX10_elements_147 : decode cX10_elements 147 = .ok (.ireturn, 1) := by decide +kernel
theorem dX10_elements_148 : decode cX10_elements 148 = .ok (.iload 10, 2) := by decide +kernel
theorem dX10_elements_150 : decode cX10_elements 150 = .ok (.bipush 6, 2) := by decide +kernel
theorem dX10_elements_152 : decode cX10_elements 152 = .ok (.if_icmp .ne 14, 3) := by decide +kernel
theorem dX10_elements_155 : decode cX10_elements 155 = .ok (.aload_n 0, 1) := by decide +kernel
theorem dX10_elements_156 : decode cX10_elements 156 = .ok (.getfield 203, 3) := by decide +kernel
theorem dX10_elements_159 : decode cX10_elements 159 = .ok (.ifCond .eq 7, 3) := by decide +kernel
theorem dX10_elements_162 : decode cX10_elements 162 = .ok (.iconst 1, 1) := by decide +kernel
theorem dX10_elements_163 : decode cX10_elements 163 = .ok (.goto 4, 3) := by decide +kernel
theorem dX10_elements_166 : decode cX10_elements 166 = .ok (.iconst 0, 1) := by decide +kernel
theorem dX10_elements_167 : decode cX10_elements 167 = .ok (.istore 11, 2) := by decide +kernel
theorem dX10_elements_169 : decode cX10_elements 169 = .ok (.iload 10, 2) := by decide +kernel
theorem dX10_elements_171 : decode cX10_elements 171 = .ok (.bipush 6, 2) := by decide +kernel
theorem dX10_elements_173 : decode cX10_elements 173 = .ok (.if_icmp .ne 18, 3) := by decide +kernel
theorem dX10_elements_176 : decode cX10_elements 176 = .ok (.aload_n 0, 1) := by decide +kernel
theorem dX10_elements_177 : decode cX10_elements 177 = .ok (.iconst 0, 1) := by decide +kernel
theorem dX10_elements_178 : decode cX10_elements 178 = .ok (.putfield 240, 3) := by decide +kernel
theorem dX10_elements_181 : decode cX10_elements 181 = .ok (.aload_n 0, 1) := by decide +kernel
theorem dX10_elements_182 : decode cX10_elements 182 = .ok (.dup, 1) := by decide +kernel
theorem dX10_elements_183 : decode cX10_elements 183 = .ok (.getfield 243, 3) := by decide +kernel
theorem dX10_elements_186 : decode cX10_elements 186 = .ok (.iconst 1, 1) := by decide +kernel
theorem dX10_elements_187 : decode cX10_elements 187 = .ok (.iadd, 1) := by decide +kernel
theorem dX10_elements_188 : decode cX10_elements 188 = .ok (.putfield 243, 3) := by decide +kernel
theorem dX10_elements_191 : decode cX10_elements 191 = .ok (.aload_n 0, 1) := by decide +kernel
theorem dX10_elements_192 : decode cX10_elements 192 = .ok (.iload 7, 2) := by decide +kernel
theorem dX10_elements_194 : decode cX10_elements 194 = .ok (.aload_n 0, 1) := by decide +kernel
theorem dX10_elements_195 : decode cX10_elements 195 = .ok (.getfield 194, 3) := by decide +kernel
theorem dX10_elements_198 : decode cX10_elements 198 = .ok (.aload_n 0, 1) := by decide +kernel
theorem dX10_elements_199 : decode cX10_elements 199 = .ok (.getfield 210, 3) := by decide +kernel
theorem dX10_elements_202 : decode cX10_elements 202 = .ok (.iload 10, 2) := by decide +kernel
theorem dX10_elements_204 : decode cX10_elements 204 = .ok (.iload 11, 2) := by decide +kernel
theorem dX10_elements_206 : decode cX10_elements 206 = .ok (.invokevirtual 246, 3) := by decide +kernel
theorem dX10_elements_209 : decode cX10_elements 209 = .ok (.ifCond .ne 5, 3) := by decide +kernel
theorem dX10_elements_212 : decode cX10_elements 212 = .ok (.iconst 0, 1) := by decide +kernel
theorem dX10_elements_213 : decode cX10_elements 213 = .ok (.ireturn, 1) := by decide +kernel
theorem dX10_elements_214 : decode cX10_elements 214 = .ok (.iload 11, 2) := by decide +kernel
theorem dX10_elements_216 : decode cX10_elements 216 = .ok (.ifCond .eq 9, 3) := by decide +kernel
theorem dX10_elements_219 : decode cX10_elements 219 = .ok (.aload_n 0, 1) := by decide +kernel
theorem dX10_elements_220 : decode cX10_elements 220 = .ok (.getfield 250, 3) := by decide +kernel
theorem dX10_elements_223 : decode cX10_elements 223 = .ok (.istore 9, 2) := by decide +kernel
theorem dX10_elements_225 : decode cX10_elements 225 = .ok (.iload 9, 2) := by decide +kernel
theorem dX10_elements_227 : decode cX10_elements 227 = .ok (.istore 7, 2) := by decide +kernel
theorem dX10_elements_229 : decode cX10_elements 229 = .ok (.goto (-223), 3) := by decide +kernel
theorem dX10_elements_232 : decode cX10_elements 232 = .ok (.aload_n 0, 1) := by decide +kernel
theorem dX10_elements_233 : decode cX10_elements 233 = .ok (.iload 7, 2) := by decide +kernel
theorem dX10_elements_235 : decode cX10_elements 235 = .ok (.putfield 250, 3) := by decide +kernel
theorem dX10_elements_238 : decode cX10_elements 238 = .ok (.aload_n 0, 1) := by decide +kernel
theorem dX10_elements_239 : decode cX10_elements 239 = .ok (.iload_n 1, 1) := by decide +kernel
theorem dX10_elements_240 : decode cX10_elements 240 = .ok (.iload 4, 2) := by decide +kernel
theorem dX10_elements_242 : decode cX10_elements 242 = .ok (.iload 6, 2) := by decide +kernel
theorem dX10_elements_244 : decode cX10_elements 244 = .ok (.invokevirtual 253, 3) := by decide +kernel
theorem dX10_elements_247 : decode cX10_elements 247 = .ok (.ireturn, 1) := by decide +kernel
set_option maxRecDepth 20000 in
theorem ggX10_isCluster_X10_at : GoodIn wsX10_isCluster wsX10_at := goodIn_r _ [5, 6, 7, 8, 9, 10, 11, 12, 13, 14, 15, 16, 17, 18, 19, 20, 21, 22, 23, 24, 25, 26, 27, 28, 29, 30, 31, 32, 33, 34, 35, 36, 37, 38, 39, 40, 41, 42, 43, 44, 45, 46, 47, 48, 49, 50, 51, 52] (by decide +kernel) (by decide +kernel)
set_option maxRecDepth 20000 in
theorem gX10_isCluster_X10_at : GoodIn wsX10_isCluster (wsV RX10 125 RX10 yX10_at wsX10_at) := goodIn_app (goodIn_of _ (by decide +kernel)) ggX10_isCluster_X10_at
theorem dX10_isCluster_0 : decode cX10_isCluster 0 = .ok (.iload_n 1, 1) := by decide +kernel
theorem dX10_isCluster_1 : decode cX10_isCluster 1 = .ok (.iconst 4, 1) := by decide +kernel
theorem dX10_isCluster_2 : decode cX10_isCluster 2 = .ok (.iadd, 1) := by decide +kernel
theorem dX10_isCluster_3 : decode cX10_isCluster 3 = .ok (.iload_n 2, 1) := by decide +kernel
theorem dX10_isCluster_4 : decode cX10_isCluster 4 = .ok (.if_icmp .gt 54, 3) := by decide +kernel
theorem dX10_isCluster_7 : decode cX10_isCluster 7 = .ok (.aload_n 0, 1) := by decide +kernel
theorem dX10_isCluster_8 : decode cX10_isCluster 8 = .ok (.iload_n 1, 1) := by decide +kernel
theorem dX10_isCluster_9 : decode cX10_isCluster 9 = .ok (.invokevirtual 125, 3) := by decide +kernel
theorem dX10_isCluster_12 : decode cX10_isCluster 12 = .ok (.bipush 31, 2) := by decide +kernel
theorem dX10_isCluster_14 : decode cX10_isCluster 14 = .ok (.if_icmp .ne 44, 3) := by decide +kernel
theorem dX10_isCluster_17 : decode cX10_isCluster 17 = .ok (.aload_n 0, 1) := by decide +kernel
theorem dX10_isCluster_18 : decode cX10_isCluster 18 = .ok (.iload_n 1, 1) := by decide +kernel
theorem dX10_isCluster_19 : decode cX10_isCluster 19 = .ok (.iconst 1, 1) := by decide +kernel
theorem dX10_isCluster_20 : decode cX10_isCluster 20 = .ok (.iadd, 1) := by decide +kernel
theorem dX10_isCluster_21 : decode cX10_isCluster 21 = .ok (.invokevirtual 125, 3) := by decide +kernel
theorem dX10_isCluster_24 : decode cX10_isCluster 24 = .ok (.bipush 67, 2) := by decide +kernel
theorem dX10_isCluster_26 : decode cX10_isCluster 26 = .ok (.if_icmp .ne 32, 3) := by decide +kernel
theorem dX10_isCluster_29 : decode cX10_isCluster 29 = .ok (.aload_n 0, 1) := by decide +kernel
theorem dX10_isCluster_30 : decode cX10_isCluster 30 = .ok (.iload_n 1, 1) := by decide +kernel
theorem dX10_isCluster_31 : decode cX10_isCluster 31 = .ok (.iconst 2, 1) := by decide +kernel
theorem dX10_isCluster_32 : decode cX10_isCluster 32 = .ok (.iadd, 1) := by decide +kernel
theorem dX10_isCluster_33 : decode cX10_isCluster 33 = .ok (.invokevirtual 125, 3) := by decide +kernel
theorem dX10_isCluster_36 : decode cX10_isCluster 36 = .ok (.sipush 182, 3) := by decide +kernel
theorem dX10_isCluster_39 : decode cX10_isCluster 39 = .ok (.if_icmp .ne 19, 3) := by decide +kernel
theorem dX10_isCluster_42 : decode cX10_isCluster 42 = .ok (.aload_n 0, 1) := by decide +kernel
theorem dX10_isCluster_43 : decode cX10_isCluster 43 = .ok (.iload_n 1, 1) := by decide +kernel
theorem dX10_isCluster_44 : decode cX10_isCluster 44 = .ok (.iconst 3, 1) := by decide +kernel
theorem dX10_isCluster_45 : decode cX10_isCluster 45 = .ok (.iadd, 1) := by decide +kernel
theorem dX10_isCluster_46 : decode cX10_isCluster 46 = .ok (.invokevirtual 125, 3) := by decide +kernel
theorem dX10_isCluster_49 : decode cX10_isCluster 49 = .ok (.bipush 117, 2) := by decide +kernel
theorem dX10_isCluster_51 : decode cX10_isCluster 51 = .ok (.if_icmp .ne 7, 3) := by decide +kernel
theorem dX10_isCluster_54 : decode cX10_isCluster 54 = .ok (.iconst 1, 1) := by decide +kernel
theorem dX10_isCluster_55 : decode cX10_isCluster 55 = .ok (.goto 4, 3) := by decide +kernel
theorem dX10_isCluster_58 : decode cX10_isCluster 58 = .ok (.iconst 0, 1) := by decide +kernel
theorem dX10_isCluster_59 : decode cX10_isCluster 59 = .ok (.ireturn, 1) := by decide +kernel
theorem dX10_sortOf_0 : decode cX10_sortOf 0 = .ok (.aload_n 0, 1) := by decide +kernel
theorem dX10_sortOf_1 : decode cX10_sortOf 1 = .ok (.getfield 191, 3) := by decide +kernel
theorem dX10_sortOf_4 : decode cX10_sortOf 4 = .ok (.lookupswitch 84 #[(160, 81), (174, 76), (357149030, 72), (374648427, 74), (408125543, 70), (440786851, 68), (524531317, 78)], 68) := by decide +kernel
theorem dX10_sortOf_72 : decode cX10_sortOf 72 = .ok (.iconst 1, 1) := by decide +kernel
theorem dX10_sortOf_73 : decode cX10_sortOf 73 = .ok (.ireturn, 1) := by decide +kernel
theorem dX10_sortOf_74 : decode cX10_sortOf 74 = .ok (.iconst 2, 1) := by decide +kernel
theorem dX10_sortOf_75 : decode cX10_sortOf 75 = .ok (.ireturn, 1) := by decide +kernel
theorem dX10_sortOf_76 : decode cX10_sortOf 76 = .ok (.iconst 3, 1) := by decide +kernel
theorem dX10_sortOf_77 : decode cX10_sortOf 77 = .ok (.ireturn, 1) := by decide +kernel
theorem dX10_sortOf_78 : decode cX10_sortOf 78 = .ok (.iconst 4, 1) := by decide +kernel
theorem dX10_sortOf_79 : decode cX10_sortOf 79 = .ok (.ireturn, 1) := by decide +kernel
theorem dX10_sortOf_80 : decode cX10_sortOf 80 = .ok (.iconst 5, 1) := by decide +kernel
theorem dX10_sortOf_81 : decode cX10_sortOf 81 = .ok (.ireturn, 1) := by decide +kernel
theorem dX10_sortOf_82 : decode cX10_sortOf 82 = .ok (.bipush 6, 2) := by decide +kernel
theorem dX10_sortOf_84 : decode cX10_sortOf 84 = .ok (.ireturn, 1) := by decide +kernel
theorem dX10_sortOf_85 : decode cX10_sortOf 85 = .ok (.bipush 7, 2) := by decide +kernel
theorem dX10_sortOf_87 : decode cX10_sortOf 87 = .ok (.ireturn, 1) := by decide +kernel
theorem dX10_sortOf_88 : decode cX10_sortOf 88 = .ok (.iconst (-1), 1) := by decide +kernel
theorem dX10_sortOf_89 : decode cX10_sortOf 89 = .ok (.ireturn, 1) := by decide +kernel
set_option maxRecDepth 20000 in
theorem ggX10_has_X10_fails : GoodIn wsX10_has wsX10_fails := goodIn_r _ [6, 7, 8, 9, 10, 11, 12, 13, 14, 15, 16, 17, 18, 19, 20, 21, 22, 23, 24, 25, 26, 27, 28, 29, 30, 31, 32, 33, 34, 35, 36, 37, 38, 39, 40, 41, 42, 43, 44, 45, 46, 47, 48, 49, 50, 51, 52, 53, 54] (by decide +kernel) (by decide +kernel)
set_option maxRecDepth 20000 in
theorem gX10_has_X10_fails : GoodIn wsX10_has (wsV RX10 151 RX10 yX10_fails wsX10_fails) := goodIn_app (goodIn_of _ (by decide +kernel)) ggX10_has_X10_fails
theorem dX10_has_0 : decode cX10_has 0 = .ok (.iload_n 2, 1) := by decide +kernel
theorem dX10_has_1 : decode cX10_has 1 = .ok (.tableswitch 141 0 7 #[47, 64, 81, 141, 97, 113, 132, 97], 47) := by decide +kernel
theorem dX10_has_48 : decode cX10_has 48 = .ok (.iload_n 3, 1) := by decide +kernel
theorem dX10_has_49 : decode cX10_has 49 = .ok (.iconst 3, 1) := by decide +kernel
theorem dX10_has_50 : decode cX10_has 50 = .ok (.iand, 1) := by decide +kernel
theorem dX10_has_51 : decode cX10_has 51 = .ok (.iconst 3, 1) := by decide +kernel
theorem dX10_has_52 : decode cX10_has 52 = .ok (.if_icmp .ne 7, 3) := by decide +kernel
theorem dX10_has_55 : decode cX10_has 55 = .ok (.iconst 1, 1) := by decide +kernel
theorem dX10_has_56 : decode cX10_has 56 = .ok (.goto 4, 3) := by decide +kernel
theorem dX10_has_59 : decode cX10_has 59 = .ok (.iconst 0, 1) := by decide +kernel
theorem dX10_has_60 : decode cX10_has 60 = .ok (.istore 4, 2) := by decide +kernel
theorem dX10_has_62 : decode cX10_has 62 = .ok (.goto 83, 3) := by decide +kernel
theorem dX10_has_65 : decode cX10_has 65 = .ok (.iload_n 3, 1) := by decide +kernel
theorem dX10_has_66 : decode cX10_has 66 = .ok (.bipush 16, 2) := by decide +kernel
theorem dX10_has_68 : decode cX10_has 68 = .ok (.iand, 1) := by decide +kernel
theorem dX10_has_69 : decode cX10_has 69 = .ok (.ifCond .eq 7, 3) := by decide +kernel
theorem dX10_has_72 : decode cX10_has 72 = .ok (.iconst 1, 1) := by decide +kernel
theorem dX10_has_73 : decode cX10_has 73 = .ok (.goto 4, 3) := by decide +kernel
theorem dX10_has_76 : decode cX10_has 76 = .ok (.iconst 0, 1) := by decide +kernel
theorem dX10_has_77 : decode cX10_has 77 = .ok (.istore 4, 2) := by decide +kernel
theorem dX10_has_79 : decode cX10_has 79 = .ok (.goto 66, 3) := by decide +kernel
theorem dX10_has_82 : decode cX10_has 82 = .ok (.iload_n 3, 1) := by decide +kernel
theorem dX10_has_83 : decode cX10_has 83 = .ok (.iconst 2, 1) := by decide +kernel
theorem dX10_has_84 : decode cX10_has 84 = .ok (.iand, 1) := by decide +kernel
theorem dX10_has_85 : decode cX10_has 85 = .ok (.ifCond .eq 7, 3) := by decide +kernel
theorem dX10_has_88 : decode cX10_has 88 = .ok (.iconst 1, 1) := by decide +kernel
theorem dX10_has_89 : decode cX10_has 89 = .ok (.goto 4, 3) := by decide +kernel
theorem dX10_has_92 : decode cX10_has 92 = .ok (.iconst 0, 1) := by decide +kernel
theorem dX10_has_93 : decode cX10_has 93 = .ok (.istore 4, 2) := by decide +kernel
theorem dX10_has_95 : decode cX10_has 95 = .ok (.goto 50, 3) := by decide +kernel
theorem dX10_has_98 : decode cX10_has 98 = .ok (.iload_n 3, 1) := by decide +kernel
theorem dX10_has_99 : decode cX10_has 99 = .ok (.iconst 1, 1) := by decide +kernel
theorem dX10_has_100 : decode cX10_has 100 = .ok (.iand, 1) := by decide +kernel
theorem dX10_has_101 : decode cX10_has 101 = .ok (.ifCond .eq 7, 3) := by decide +kernel
theorem dX10_has_104 : decode cX10_has 104 = .ok (.iconst 1, 1) := by decide +kernel
theorem dX10_has_105 : decode cX10_has 105 = .ok (.goto 4, 3) := by decide +kernel
theorem dX10_has_108 : decode cX10_has 108 = .ok (.iconst 0, 1) := by decide +kernel
theorem dX10_has_109 : decode cX10_has 109 = .ok (.istore 4, 2) := by decide +kernel
theorem dX10_has_111 : decode cX10_has 111 = .ok (.goto 34, 3) := by decide +kernel
theorem dX10_has_114 : decode cX10_has 114 = .ok (.iload_n 3, 1) := by decide +kernel
theorem dX10_has_115 : decode cX10_has 115 = .ok (.bipush 7, 2) := by decide +kernel
theorem dX10_has_117 : decode cX10_has 117 = .ok (.iand, 1) := by decide +kernel
theorem dX10_has_118 : decode cX10_has 118 = .ok (.bipush 7, 2) := by decide +kernel
theorem dX10_has_120 : decode cX10_has 120 = .ok (.if_icmp .ne 7, 3) := by decide +kernel
theorem dX10_has_123 : decode cX10_has 123 = .ok (.iconst 1, 1) := by decide +kernel
theorem dX10_has_124 : decode cX10_has 124 = .ok (.goto 4, 3) := by decide +kernel
theorem dX10_has_127 : decode cX10_has 127 = .ok (.iconst 0, 1) := by decide +kernel
theorem dX10_has_128 : decode cX10_has 128 = .ok (.istore 4, 2) := by decide +kernel
theorem dX10_has_130 : decode cX10_has 130 = .ok (.goto 15, 3) := by decide +kernel
theorem dX10_has_133 : decode cX10_has 133 = .ok (.aload_n 0, 1) := by decide +kernel
theorem dX10_has_134 : decode cX10_has 134 = .ok (.getfield 240, 3) := by decide +kernel
theorem dX10_has_137 : decode cX10_has 137 = .ok (.istore 4, 2) := by decide +kernel
theorem dX10_has_139 : decode cX10_has 139 = .ok (.goto 6, 3) := by decide +kernel
theorem dX10_has_142 : decode cX10_has 142 = .ok (.iconst 1, 1) := by decide +kernel
theorem dX10_has_143 : decode cX10_has 143 = .ok (.istore 4, 2) := by decide +kernel
theorem dX10_has_145 : decode cX10_has 145 = .ok (.iload 4, 2) := by decide +kernel
theorem dX10_has_147 : decode cX10_has 147 = .ok (.ifCond .ne 13, 3) := by decide +kernel
theorem dX10_has_150 : decode cX10_has 150 = .ok (.aload_n 0, 1) := by decide +kernel
theorem dX10_has_151 : decode cX10_has 151 = .ok (.bipush 7, 2) := by decide +kernel
theorem dX10_has_153 : decode cX10_has 153 = .ok (.iload_n 1, 1) := by decide +kernel
theorem dX10_has_154 : decode cX10_has 154 = .ok (.invokevirtual 151, 3) := by decide +kernel
theorem dX10_has_157 : decode cX10_has 157 = .ok (.ifCond .eq 7, 3) := by decide +kernel
theorem dX10_has_160 : decode cX10_has 160 = .ok (.iconst 1, 1) := by decide +kernel
theorem dX10_has_161 : decode cX10_has 161 = .ok (.goto 4, 3) := by decide +kernel
theorem dX10_has_164 : decode cX10_has 164 = .ok (.iconst 0, 1) := by decide +kernel
theorem dX10_has_165 : decode cX10_has 165 = .ok (.ireturn, 1) := by decide +kernel
set_option maxRecDepth 20000 in
theorem ggX10_uint_X10_at : GoodIn wsX10_uint wsX10_at := goodIn_r _ [9, 10, 11, 12, 13, 14, 15, 16, 17, 18, 19, 20, 21, 22, 23, 24, 25, 26, 27, 28, 29, 30, 31, 32, 33, 34, 35, 36, 37, 38, 39, 40, 41, 42, 43, 44, 45, 46, 47, 48, 49, 50, 51, 52, 53, 54, 55, 56] (by decide +kernel) (by decide +kernel)
set_option maxRecDepth 20000 in
theorem gX10_uint_X10_at : GoodIn wsX10_uint (wsV RX10 125 RX10 yX10_at wsX10_at) := goodIn_app (goodIn_of _ (by decide +kernel)) ggX10_uint_X10_at
theorem dX10_uint_0 : decode cX10_uint 0 = .ok (.aload_n 0, 1) := by decide +kernel
theorem dX10_uint_1 : decode cX10_uint 1 = .ok (.getfield 210, 3) := by decide +kernel
theorem dX10_uint_4 : decode cX10_uint 4 = .ok (.aload_n 0, 1) := by decide +kernel
theorem dX10_uint_5 : decode cX10_uint 5 = .ok (.getfield 194, 3) := by decide +kernel
theorem dX10_uint_8 : decode cX10_uint 8 = .ok (.isub, 1) := by decide +kernel
theorem dX10_uint_9 : decode cX10_uint 9 = .ok (.bipush 8, 2) := by decide +kernel
theorem dX10_uint_11 : decode cX10_uint 11 = .ok (.if_icmp .le 7, 3) := by decide +kernel
theorem dX10_uint_14 : decode cX10_uint 14 = .ok (.ldc2_w 65, 3) := by decide +kernel
theorem dX10_uint_17 : decode cX10_uint 17 = .ok (.lreturn, 1) := by decide +kernel
theorem dX10_uint_18 : decode cX10_uint 18 = .ok (.lconst 0, 1) := by decide +kernel
theorem dX10_uint_19 : decode cX10_uint 19 = .ok (.lstore_n 1, 1) := by decide +kernel
theorem dX10_uint_20 : decode cX10_uint 20 = .ok (.aload_n 0, 1) := by decide +kernel
theorem dX10_uint_21 : decode cX10_uint 21 = .ok (.getfield 194, 3) := by decide +kernel
theorem dX10_uint_24 : decode cX10_uint 24 = .ok (.istore_n 3, 1) := by decide +kernel
theorem dX10_uint_25 : decode cX10_uint 25 = .ok (.iload_n 3, 1) := by decide +kernel
theorem dX10_uint_26 : decode cX10_uint 26 = .ok (.aload_n 0, 1) := by decide +kernel
theorem dX10_uint_27 : decode cX10_uint 27 = .ok (.getfield 210, 3) := by decide +kernel
theorem dX10_uint_30 : decode cX10_uint 30 = .ok (.if_icmp .ge 33, 3) := by decide +kernel
theorem dX10_uint_33 : decode cX10_uint 33 = .ok (.lload_n 1, 1) := by decide +kernel
theorem dX10_uint_34 : decode cX10_uint 34 = .ok (.ldc2_w 256, 3) := by decide +kernel
theorem dX10_uint_37 : decode cX10_uint 37 = .ok (.lcmp, 1) := by decide +kernel
theorem dX10_uint_38 : decode cX10_uint 38 = .ok (.ifCond .lt 7, 3) := by decide +kernel
theorem dX10_uint_41 : decode cX10_uint 41 = .ok (.ldc2_w 65, 3) := by decide +kernel
theorem dX10_uint_44 : decode cX10_uint 44 = .ok (.lreturn, 1) := by decide +kernel
theorem dX10_uint_45 : decode cX10_uint 45 = .ok (.lload_n 1, 1) := by decide +kernel
theorem dX10_uint_46 : decode cX10_uint 46 = .ok (.bipush 8, 2) := by decide +kernel
theorem dX10_uint_48 : decode cX10_uint 48 = .ok (.lshl, 1) := by decide +kernel
theorem dX10_uint_49 : decode cX10_uint 49 = .ok (.aload_n 0, 1) := by decide +kernel
theorem dX10_uint_50 : decode cX10_uint 50 = .ok (.iload_n 3, 1) := by decide +kernel
theorem dX10_uint_51 : decode cX10_uint 51 = .ok (.invokevirtual 125, 3) := by decide +kernel
theorem dX10_uint_54 : decode cX10_uint 54 = .ok (.i2l, 1) := by decide +kernel
theorem dX10_uint_55 : decode cX10_uint 55 = .ok (.lor, 1) := by decide +kernel
theorem dX10_uint_56 : decode cX10_uint 56 = .ok (.lstore_n 1, 1) := by decide +kernel
theorem dX10_uint_57 : decode cX10_uint 57 = .ok (.iinc 3 1, 3) := by decide +kernel
theorem dX10_uint_60 : decode cX10_uint 60 = .ok (.goto (-35), 3) := by decide +kernel
theorem dX10_uint_63 : decode cX10_uint 63 = .ok (.lload_n 1, 1) := by decide +kernel
theorem dX10_uint_64 : decode cX10_uint 64 = .ok (.lreturn, 1) := by decide +kernel
set_option maxRecDepth 20000 in
theorem ggX10_isWithin_X10_uint : GoodIn wsX10_isWithin wsX10_uint := goodIn_r _ [5, 6, 7, 8, 9, 10, 11, 12, 4, 13, 14, 21, 22, 23, 24, 25, 26, 27, 28, 29, 30, 31, 32, 33, 34, 35, 36, 37, 38, 39, 40, 41, 42, 43, 44, 45, 46, 47, 48, 49, 50, 51, 52, 53, 54, 55, 56, 57, 58, 59, 60, 61, 62, 63, 64, 65, 66] (by decide +kernel) (by decide +kernel)
set_option maxRecDepth 20000 in
theorem gX10_isWithin_X10_uint : GoodIn wsX10_isWithin (wsV RX10 258 RX10 yX10_uint wsX10_uint) := goodIn_app (goodIn_of _ (by decide +kernel)) ggX10_isWithin_X10_uint
set_option maxRecDepth 20000 in
theorem ggX10_isWithin_X10_fails : GoodIn wsX10_isWithin wsX10_fails := goodIn_r _ [18, 19, 20, 21, 22, 23, 24, 25, 26, 27, 28, 29, 30, 31, 32, 33, 34, 35, 36, 37, 38, 39, 40, 41, 42, 43, 44, 45, 46, 47, 48, 49, 50, 51, 52, 53, 54, 55, 56, 57, 58, 59, 60, 61, 62, 63, 64, 65, 66] (by decide +kernel) (by decide +kernel)
set_option maxRecDepth 20000 in
theorem gX10_isWithin_X10_fails : GoodIn wsX10_isWithin (wsV RX10 151 RX10 yX10_fails wsX10_fails) := goodIn_app (goodIn_of _ (by decide +kernel)) ggX10_isWithin_X10_fails
theorem dX10_isWithin_0 : decode cX10_isWithin 0 = .ok (.aload_n 0, 1) := by decide +kernel
theorem dX10_isWithin_1 : decode cX10_isWithin 1 = .ok (.invokevirtual 258, 3) := by decide +kernel
theorem dX10_isWithin_4 : decode cX10_isWithin 4 = .ok (.lstore 6, 2) := by decide +kernel
theorem dX10_isWithin_6 : decode cX10_isWithin 6 = .ok (.lload 6, 2) := by decide +kernel
theorem dX10_isWithin_8 : decode cX10_isWithin 8 = .ok (.lload_n 2, 1) := by decide +kernel
theorem dX10_isWithin_9 : decode cX10_isWithin 9 = .ok (.lcmp, 1) := by decide +kernel
theorem dX10_isWithin_10 : decode cX10_isWithin 10 = .ok (.ifCond .lt 11, 3) := by decide +kernel
theorem dX10_isWithin_13 : decode cX10_isWithin 13 = .ok (.lload 6, 2) := by decide +kernel
theorem dX10_isWithin_15 : decode cX10_isWithin 15 = .ok (.lload 4, 2) := by decide +kernel
theorem dX10_isWithin_17 : decode cX10_isWithin 17 = .ok (.lcmp, 1) := by decide +kernel
theorem dX10_isWithin_18 : decode cX10_isWithin 18 = .ok (.ifCond .le 12, 3) := by decide +kernel
theorem dX10_isWithin_21 : decode cX10_isWithin 21 = .ok (.aload_n 0, 1) := by decide +kernel
theorem dX10_isWithin_22 : decode cX10_isWithin 22 = .ok (.iconst 5, 1) := by decide +kernel
theorem dX10_isWithin_23 : decode cX10_isWithin 23 = .ok (.iload_n 1, 1) := by decide +kernel
theorem dX10_isWithin_24 : decode cX10_isWithin 24 = .ok (.invokevirtual 151, 3) := by decide +kernel
theorem dX10_isWithin_27 : decode cX10_isWithin 27 = .ok (.ifCond .eq 7, 3) := by decide +kernel
theorem dX10_isWithin_30 : decode cX10_isWithin 30 = .ok (.iconst 1, 1) := by decide +kernel
theorem dX10_isWithin_31 : decode cX10_isWithin 31 = .ok (.goto 4, 3) := by decide +kernel
theorem dX10_isWithin_34 : decode cX10_isWithin 34 = .ok (.iconst 0, 1) := by decide +kernel
theorem dX10_isWithin_35 : decode cX10_isWithin 35 = .ok (.ireturn, 1) := by decide +kernel
set_option maxRecDepth 20000 in
theorem ggX10_plain_X10_isWithin : GoodIn wsX10_plain wsX10_isWithin := goodIn_r _ [17, 18, 19, 20, 16, 21, 8, 9, 22, 23, 24, 25, 26, 27, 28, 29, 30, 31, 32, 33, 34, 63, 64, 65, 66, 67, 68, 69, 70, 71, 72, 73, 74, 75, 76, 77, 78, 79, 80, 81, 82, 83, 84, 85, 86, 87, 88, 89, 90, 91, 92, 93, 94, 95, 96, 97, 98, 99, 100, 101, 102, 103, 104, 105, 106, 107, 108] (by decide +kernel) (by decide +kernel)
set_option maxRecDepth 20000 in
theorem gX10_plain_X10_isWithin : GoodIn wsX10_plain (wsV RX10 264 RX10 yX10_isWithin wsX10_isWithin) := goodIn_app (goodIn_of _ (by decide +kernel)) ggX10_plain_X10_isWithin
set_option maxRecDepth 20000 in
theorem ggX10_plain_X10_isMatroska : GoodIn wsX10_plain wsX10_isMatroska := goodIn_r _ [38, 9, 8, 39, 24, 25, 26, 16, 27, 28, 63, 64, 65, 66, 67, 68, 69, 70, 71, 72, 73, 74, 75, 76, 77, 78, 79, 80, 81, 82, 83, 84, 85, 86, 87, 88, 89, 90, 91, 92, 93, 94, 95, 96, 97, 98, 99, 100, 101, 102, 103, 104, 105, 106, 107, 108] (by decide +kernel) (by decide +kernel)
set_option maxRecDepth 20000 in
theorem gX10_plain_X10_isMatroska : GoodIn wsX10_plain (wsV RX10 272 RX10 yX10_isMatroska wsX10_isMatroska) := goodIn_app (goodIn_of _ (by decide +kernel)) ggX10_plain_X10_isMatroska
set_option maxRecDepth 20000 in
theorem ggX10_plain_X10_fails : GoodIn wsX10_plain wsX10_fails := goodIn_r _ [32, 33, 34, 63, 64, 65, 66, 67, 68, 69, 70, 71, 72, 73, 74, 75, 76, 77, 78, 79, 80, 81, 82, 83, 84, 85, 86, 87, 88, 89, 90, 91, 92, 93, 94, 95, 96, 97, 98, 99, 100, 101, 102, 103, 104, 105, 106, 107, 108] (by decide +kernel) (by decide +kernel)
set_option maxRecDepth 20000 in
theorem gX10_plain_X10_fails : GoodIn wsX10_plain (wsV RX10 151 RX10 yX10_fails wsX10_fails) := goodIn_app (goodIn_of _ (by decide +kernel)) ggX10_plain_X10_fails
set_option maxRecDepth 20000 in
theorem ggX10_plain_X10_uint : GoodIn wsX10_plain wsX10_uint := goodIn_r _ [21, 8, 9, 22, 23, 24, 25, 26, 16, 27, 28, 63, 64, 65, 66, 67, 68, 69, 70, 71, 72, 73, 74, 75, 76, 77, 78, 79, 80, 81, 82, 83, 84, 85, 86, 87, 88, 89, 90, 91, 92, 93, 94, 95, 96, 97, 98, 99, 100, 101, 102, 103, 104, 105, 106, 107, 108] (by decide +kernel) (by decide +kernel)
set_option maxRecDepth 20000 in
theorem gX10_plain_X10_uint : GoodIn wsX10_plain (wsV RX10 258 RX10 yX10_uint wsX10_uint) := goodIn_app (goodIn_of _ (by decide +kernel)) ggX10_plain_X10_uint
set_option maxRecDepth 20000 in
theorem ggX10_plain_X10_block : GoodIn wsX10_plain wsX10_block := goodIn_r _ [43, 11, 44, 9, 8, 5, 10, 2, 12, 45, 46, 47, 48, 49, 22, 50, 28, 29, 30, 31, 16, 32, 33, 34, 24, 25, 26, 27, 51, 52, 53, 54, 55, 56, 57, 58, 59, 60, 61, 62, 63, 64, 65, 66, 67, 68, 69, 70, 71, 72, 73, 74, 75, 76, 77, 78, 79, 80, 81, 82, 83, 84, 85, 86, 87, 88, 89, 90, 91, 92, 93, 94, 95, 96, 97, 98, 99, 100, 101, 102, 103, 104, 105, 106, 107, 108] (by decide +kernel) (by decide +kernel)
set_option maxRecDepth 20000 in
theorem gX10_plain_X10_block : GoodIn wsX10_plain (wsV RX10 286 RX10 yX10_block wsX10_block) := goodIn_app (goodIn_of _ (by decide +kernel)) ggX10_plain_X10_block
theorem dX10_plain_0 : decode cX10_plain 0 = .ok (.ldc2_w 262, 3) := by decide +kernel
theorem dX10_plain_3 : decode cX10_plain 3 = .ok (.lstore_n 2, 1) := by decide +kernel
theorem dX10_plain_4 : decode cX10_plain 4 = .ok (.aload_n 0, 1) := by decide +kernel
theorem dX10_plain_5 : decode cX10_plain 5 = .ok (.getfield 191, 3) := by decide +kernel
theorem dX10_plain_8 : decode cX10_plain 8 = .ok (.lookupswitch 322 #[(131, 239), (134, 251), (155, 308), (156, 277), (161, 316), (163, 316), (215, 220), (231, 285), (17026, 190), (17029, 180), (17030, 148), (17031, 180), (17138, 156), (17139, 168), (17143, 148), (29637, 212), (2807729, 212)], 148) := by decide +kernel
theorem dX10_plain_156 : decode cX10_plain 156 = .ok (.aload_n 0, 1) := by decide +kernel
theorem dX10_plain_157 : decode cX10_plain 157 = .ok (.iload_n 1, 1) := by decide +kernel
theorem dX10_plain_158 : decode cX10_plain 158 = .ok (.lconst 1, 1) := by decide +kernel
theorem dX10_plain_159 : decode cX10_plain 159 = .ok (.lconst 1, 1) := by decide +kernel
theorem dX10_plain_160 : decode cX10_plain 160 = .ok (.invokevirtual 264, 3) := by decide +kernel
theorem dX10_plain_163 : decode cX10_plain 163 = .ok (.ireturn, 1) := by decide +kernel
theorem dX10_plain_164 : decode cX10_plain 164 = .ok (.aload_n 0, 1) := by decide +kernel
theorem dX10_plain_165 : decode cX10_plain 165 = .ok (.iload_n 1, 1) := by decide +kernel
theorem dX10_plain_166 : decode cX10_plain 166 = .ok (.ldc2_w 268, 3) := by decide +kernel
theorem dX10_plain_169 : decode cX10_plain 169 = .ok (.ldc2_w 268, 3) := by decide +kernel
theorem dX10_plain_172 : decode cX10_plain 172 = .ok (.invokevirtual 264, 3) := by decide +kernel
theorem dX10_plain_175 : decode cX10_plain 175 = .ok (.ireturn, 1) := by decide +kernel
theorem dX10_plain_176 : decode cX10_plain 176 = .ok (.aload_n 0, 1) := by decide +kernel
theorem dX10_plain_177 : decode cX10_plain 177 = .ok (.iload_n 1, 1) := by decide +kernel
theorem dX10_plain_178 : decode cX10_plain 178 = .ok (.ldc2_w 270, 3) := by decide +kernel
theorem dX10_plain_181 : decode cX10_plain 181 = .ok (.ldc2_w 270, 3) := by decide +kernel
theorem dX10_plain_184 : decode cX10_plain 184 = .ok (.invokevirtual 264, 3) := by decide +kernel
theorem dX10_plain_187 : decode cX10_plain 187 = .ok (.ireturn, 1) := by decide +kernel
theorem dX10_plain_188 : decode cX10_plain 188 = .ok (.aload_n 0, 1) := by decide +kernel
theorem dX10_plain_189 : decode cX10_plain 189 = .ok (.iload_n 1, 1) := by decide +kernel
theorem dX10_plain_190 : decode cX10_plain 190 = .ok (.lconst 1, 1) := by decide +kernel
theorem dX10_plain_191 : decode cX10_plain 191 = .ok (.ldc2_w 268, 3) := by decide +kernel
theorem dX10_plain_194 : decode cX10_plain 194 = .ok (.invokevirtual 264, 3) := by decide +kernel
theorem dX10_plain_197 : decode cX10_plain 197 = .ok (.ireturn, 1) := by decide +kernel
theorem dX10_plain_198 : decode cX10_plain 198 = .ok (.aload_n 0, 1) := by decide +kernel
theorem dX10_plain_199 : decode cX10_plain 199 = .ok (.invokevirtual 272, 3) := by decide +kernel
theorem dX10_plain_202 : decode cX10_plain 202 = .ok (.ifCond .ne 12, 3) := by decide +kernel
theorem dX10_plain_205 : decode cX10_plain 205 = .ok (.aload_n 0, 1) := by decide +kernel
theorem dX10_plain_206 : decode cX10_plain 206 = .ok (.iconst 5, 1) := by decide +kernel
theorem dX10_plain_207 : decode cX10_plain 207 = .ok (.iload_n 1, 1) := by decide +kernel
theorem dX10_plain_208 : decode cX10_plain 208 = .ok (.invokevirtual 151, 3) := by decide +kernel
theorem dX10_plain_211 : decode cX10_plain 211 = .ok (.ifCond .eq 7, 3) := by decide +kernel
theorem dX10_plain_214 : decode cX10_plain 214 = .ok (.iconst 1, 1) := by decide +kernel
theorem dX10_plain_215 : decode cX10_plain 215 = .ok (.goto 4, 3) := by decide +kernel
theorem dX10_plain_218 : decode cX10_plain 218 = .ok (.iconst 0, 1) := by decide +kernel
theorem dX10_plain_219 : decode cX10_plain 219 = .ok (.ireturn, 1) := by decide +kernel
theorem dX10_plain_220 : decode cX10_plain 220 = .ok (.aload_n 0, 1) := by decide +kernel
theorem dX10_plain_221 : decode cX10_plain 221 = .ok (.iload_n 1, 1) := by decide +kernel
theorem dX10_plain_222 : decode cX10_plain 222 = .ok (.lconst 1, 1) := by decide +kernel
theorem dX10_plain_223 : decode cX10_plain 223 = .ok (.lload_n 2, 1) := by decide +kernel
theorem dX10_plain_224 : decode cX10_plain 224 = .ok (.invokevirtual 264, 3) := by decide +kernel
theorem dX10_plain_227 : decode cX10_plain 227 = .ok (.ireturn, 1) := by decide +kernel
theorem dX10_plain_228 : decode cX10_plain 228 = .ok (.aload_n 0, 1) := by decide +kernel
theorem dX10_plain_229 : decode cX10_plain 229 = .ok (.aload_n 0, 1) := by decide +kernel
theorem dX10_plain_230 : decode cX10_plain 230 = .ok (.invokevirtual 258, 3) := by decide +kernel
theorem dX10_plain_233 : decode cX10_plain 233 = .ok (.l2i, 1) := by decide +kernel
theorem dX10_plain_234 : decode cX10_plain 234 = .ok (.putfield 276, 3) := by decide +kernel
theorem dX10_plain_237 : decode cX10_plain 237 = .ok (.aload_n 0, 1) := by decide +kernel
theorem dX10_plain_238 : decode cX10_plain 238 = .ok (.iload_n 1, 1) := by decide +kernel
theorem dX10_plain_239 : decode cX10_plain 239 = .ok (.lconst 1, 1) := by decide +kernel
theorem dX10_plain_240 : decode cX10_plain 240 = .ok (.ldc2_w 279, 3) := by decide +kernel
theorem dX10_plain_243 : decode cX10_plain 243 = .ok (.invokevirtual 264, 3) := by decide +kernel
theorem dX10_plain_246 : decode cX10_plain 246 = .ok (.ireturn, 1) := by decide +kernel
theorem dX10_plain_247 : decode cX10_plain 247 = .ok (.aload_n 0, 1) := by decide +kernel
theorem dX10_plain_248 : decode cX10_plain 248 = .ok (.iload_n 1, 1) := by decide +kernel
theorem dX10_plain_249 : decode cX10_plain 249 = .ok (.ldc2_w 281, 3) := by decide +kernel
theorem dX10_plain_252 : decode cX10_plain 252 = .ok (.ldc2_w 281, 3) := by decide +kernel
theorem dX10_plain_255 : decode cX10_plain 255 = .ok (.invokevirtual 264, 3) := by decide +kernel
theorem dX10_plain_258 : decode cX10_plain 258 = .ok (.ireturn, 1) := by decide +kernel
theorem dX10_plain_259 : decode cX10_plain 259 = .ok (.aload_n 0, 1) := by decide +kernel
theorem dX10_plain_260 : decode cX10_plain 260 = .ok (.getfield 210, 3) := by decide +kernel
theorem dX10_plain_263 : decode cX10_plain 263 = .ok (.aload_n 0, 1) := by decide +kernel
theorem dX10_plain_264 : decode cX10_plain 264 = .ok (.getfield 194, 3) := by decide +kernel
theorem dX10_plain_267 : decode cX10_plain 267 = .ok (.if_icmp .gt 12, 3) := by decide +kernel
theorem dX10_plain_270 : decode cX10_plain 270 = .ok (.aload_n 0, 1) := by decide +kernel
theorem dX10_plain_271 : decode cX10_plain 271 = .ok (.iconst 5, 1) := by decide +kernel
theorem dX10_plain_272 : decode cX10_plain 272 = .ok (.iload_n 1, 1) := by decide +kernel
theorem dX10_plain_273 : decode cX10_plain 273 = .ok (.invokevirtual 151, 3) := by decide +kernel
theorem dX10_plain_276 : decode cX10_plain 276 = .ok (.ifCond .eq 7, 3) := by decide +kernel
theorem dX10_plain_279 : decode cX10_plain 279 = .ok (.iconst 1, 1) := by decide +kernel
theorem dX10_plain_280 : decode cX10_plain 280 = .ok (.goto 4, 3) := by decide +kernel
theorem dX10_plain_283 : decode cX10_plain 283 = .ok (.iconst 0, 1) := by decide +kernel
theorem dX10_plain_284 : decode cX10_plain 284 = .ok (.ireturn, 1) := by decide +kernel
theorem dX10_plain_285 : decode cX10_plain 285 = .ok (.aload_n 0, 1) := by decide +kernel
theorem dX10_plain_286 : decode cX10_plain 286 = .ok (.iload_n 1, 1) := by decide +kernel
theorem dX10_plain_287 : decode cX10_plain 287 = .ok (.lconst 0, 1) := by decide +kernel
theorem dX10_plain_288 : decode cX10_plain 288 = .ok (.lconst 1, 1) := by decide +kernel
theorem dX10_plain_289 : decode cX10_plain 289 = .ok (.invokevirtual 264, 3) := by decide +kernel
theorem dX10_plain_292 : decode cX10_plain 292 = .ok (.ireturn, 1) := by decide +kernel
theorem dX10_plain_293 : decode cX10_plain 293 = .ok (.aload_n 0, 1) := by decide +kernel
theorem dX10_plain_294 : decode cX10_plain 294 = .ok (.aload_n 0, 1) := by decide +kernel
theorem dX10_plain_295 : decode cX10_plain 295 = .ok (.invokevirtual 258, 3) := by decide +kernel
theorem dX10_plain_298 : decode cX10_plain 298 = .ok (.putfield 283, 3) := by decide +kernel
theorem dX10_plain_301 : decode cX10_plain 301 = .ok (.aload_n 0, 1) := by decide +kernel
theorem dX10_plain_302 : decode cX10_plain 302 = .ok (.iconst 1, 1) := by decide +kernel
theorem dX10_plain_303 : decode cX10_plain 303 = .ok (.putfield 240, 3) := by decide +kernel
theorem dX10_plain_306 : decode cX10_plain 306 = .ok (.aload_n 0, 1) := by decide +kernel
theorem dX10_plain_307 : decode cX10_plain 307 = .ok (.iload_n 1, 1) := by decide +kernel
theorem dX10_plain_308 : decode cX10_plain 308 = .ok (.lconst 0, 1) := by decide +kernel
theorem dX10_plain_309 : decode cX10_plain 309 = .ok (.ldc2_w 67, 3) := by decide +kernel
theorem dX10_plain_312 : decode cX10_plain 312 = .ok (.invokevirtual 264, 3) := by decide +kernel
theorem dX10_plain_315 : decode cX10_plain 315 = .ok (.ireturn, 1) := by decide +kernel
theorem dX10_plain_316 : decode cX10_plain 316 = .ok (.aload_n 0, 1) := by decide +kernel
theorem dX10_plain_317 : decode cX10_plain 317 = .ok (.iload_n 1, 1) := by decide +kernel
theorem dX10_plain_318 : decode cX10_plain 318 = .ok (.lconst 0, 1) := by decide +kernel
theorem dX10_plain_319 : decode cX10_plain 319 = .ok (.lload_n 2, 1) := by decide +kernel
theorem dX10_plain_320 : decode cX10_plain 320 = .ok (.invokevirtual 264, 3) := by decide +kernel
theorem dX10_plain_323 : decode cX10_plain 323 = .ok (.ireturn, 1) := by decide +kernel
theorem dX10_plain_324 : decode cX10_plain 324 = .ok (.aload_n 0, 1) := by decide +kernel
theorem dX10_plain_325 : decode cX10_plain 325 = .ok (.iload_n 1, 1) := by decide +kernel
theorem dX10_plain_326 : decode cX10_plain 326 = .ok (.invokevirtual 286, 3) := by decide +kernel
theorem dX10_plain_329 : decode cX10_plain 329 = .ok (.ireturn, 1) := by decide +kernel
theorem dX10_plain_330 : decode cX10_plain 330 = .ok (.iconst 1, 1) := by decide +kernel
theorem dX10_plain_331 : decode cX10_plain 331 = .ok (.ireturn, 1) := by decide +kernel
set_option maxRecDepth 20000 in
theorem ggX10_isMatroska_X10_at : GoodIn wsX10_isMatroska wsX10_at := goodIn_r _ [8, 9, 10, 11, 12, 13, 14, 15, 16, 17, 18, 19, 20, 21, 22, 23, 24, 25, 26, 27, 28, 29, 30, 31, 32, 33, 34, 35, 36, 37, 38, 39, 40, 41, 42, 43, 44, 45, 46, 47, 48, 49, 50, 51, 52, 53, 54, 55] (by decide +kernel) (by decide +kernel)
set_option maxRecDepth 20000 in
theorem gX10_isMatroska_X10_at : GoodIn wsX10_isMatroska (wsV RX10 125 RX10 yX10_at wsX10_at) := goodIn_app (goodIn_of _ (by decide +kernel)) ggX10_isMatroska_X10_at
theorem dX10_isMatroska_0 : decode cX10_isMatroska 0 = .ok (.lconst 0, 1) := by decide +kernel
theorem dX10_isMatroska_1 : decode cX10_isMatroska 1 = .ok (.lstore_n 1, 1) := by decide +kernel
theorem dX10_isMatroska_2 : decode cX10_isMatroska 2 = .ok (.aload_n 0, 1) := by decide +kernel
theorem dX10_isMatroska_3 : decode cX10_isMatroska 3 = .ok (.getfield 194, 3) := by decide +kernel
theorem dX10_isMatroska_6 : decode cX10_isMatroska 6 = .ok (.istore_n 3, 1) := by decide +kernel
theorem dX10_isMatroska_7 : decode cX10_isMatroska 7 = .ok (.iload_n 3, 1) := by decide +kernel
theorem dX10_isMatroska_8 : decode cX10_isMatroska 8 = .ok (.aload_n 0, 1) := by decide +kernel
theorem dX10_isMatroska_9 : decode cX10_isMatroska 9 = .ok (.getfield 210, 3) := by decide +kernel
theorem dX10_isMatroska_12 : decode cX10_isMatroska 12 = .ok (.if_icmp .ge 35, 3) := by decide +kernel
theorem dX10_isMatroska_15 : decode cX10_isMatroska 15 = .ok (.aload_n 0, 1) := by decide +kernel
theorem dX10_isMatroska_16 : decode cX10_isMatroska 16 = .ok (.getfield 210, 3) := by decide +kernel
theorem dX10_isMatroska_19 : decode cX10_isMatroska 19 = .ok (.aload_n 0, 1) := by decide +kernel
theorem dX10_isMatroska_20 : decode cX10_isMatroska 20 = .ok (.getfield 194, 3) := by decide +kernel
theorem dX10_isMatroska_23 : decode cX10_isMatroska 23 = .ok (.isub, 1) := by decide +kernel
theorem dX10_isMatroska_24 : decode cX10_isMatroska 24 = .ok (.bipush 8, 2) := by decide +kernel
theorem dX10_isMatroska_26 : decode cX10_isMatroska 26 = .ok (.if_icmp .ne 21, 3) := by decide +kernel
theorem dX10_isMatroska_29 : decode cX10_isMatroska 29 = .ok (.lload_n 1, 1) := by decide +kernel
theorem dX10_isMatroska_30 : decode cX10_isMatroska 30 = .ok (.bipush 8, 2) := by decide +kernel
theorem dX10_isMatroska_32 : decode cX10_isMatroska 32 = .ok (.lshl, 1) := by decide +kernel
theorem dX10_isMatroska_33 : decode cX10_isMatroska 33 = .ok (.aload_n 0, 1) := by decide +kernel
theorem dX10_isMatroska_34 : decode cX10_isMatroska 34 = .ok (.iload_n 3, 1) := by decide +kernel
theorem dX10_isMatroska_35 : decode cX10_isMatroska 35 = .ok (.invokevirtual 125, 3) := by decide +kernel
theorem dX10_isMatroska_38 : decode cX10_isMatroska 38 = .ok (.i2l, 1) := by decide +kernel
theorem dX10_isMatroska_39 : decode cX10_isMatroska 39 = .ok (.lor, 1) := by decide +kernel
theorem dX10_isMatroska_40 : decode cX10_isMatroska 40 = .ok (.lstore_n 1, 1) := by decide +kernel
theorem dX10_isMatroska_41 : decode cX10_isMatroska 41 = .ok (.iinc 3 1, 3) := by decide +kernel
theorem dX10_isMatroska_44 : decode cX10_isMatroska 44 = .ok (.goto (-37), 3) := by decide +kernel
theorem dX10_isMatroska_47 : decode cX10_isMatroska 47 = .ok (.lload_n 1, 1) := by decide +kernel
theorem dX10_isMatroska_48 : decode cX10_isMatroska 48 = .ok (.ldc2_w 289, 3) := by decide +kernel
theorem dX10_isMatroska_51 : decode cX10_isMatroska 51 = .ok (.lcmp, 1) := by decide +kernel
theorem dX10_isMatroska_52 : decode cX10_isMatroska 52 = .ok (.ifCond .ne 7, 3) := by decide +kernel
theorem dX10_isMatroska_55 : decode cX10_isMatroska 55 = .ok (.iconst 1, 1) := by decide +kernel
theorem dX10_isMatroska_56 : decode cX10_isMatroska 56 = .ok (.goto 4, 3) := by decide +kernel
theorem dX10_isMatroska_59 : decode cX10_isMatroska 59 = .ok (.iconst 0, 1) := by decide +kernel
theorem dX10_isMatroska_60 : decode cX10_isMatroska 60 = .ok (.ireturn, 1) := by decide +kernel
set_option maxRecDepth 20000 in
theorem ggX10_block_X10_fails : GoodIn wsX10_block wsX10_fails := goodIn_r _ [21, 22, 23, 40, 41, 42, 43, 44, 45, 46, 47, 48, 49, 50, 51, 52, 53, 54, 55, 56, 57, 58, 59, 60, 61, 62, 63, 64, 65, 66, 67, 68, 69, 70, 71, 72, 73, 74, 75, 76, 77, 78, 79, 80, 81, 82, 83, 84, 85] (by decide +kernel) (by decide +kernel)
set_option maxRecDepth 20000 in
theorem gX10_block_X10_fails : GoodIn wsX10_block (wsV RX10 151 RX10 yX10_fails wsX10_fails) := goodIn_app (goodIn_of _ (by decide +kernel)) ggX10_block_X10_fails
set_option maxRecDepth 20000 in
theorem ggX10_block_X10_at : GoodIn wsX10_block wsX10_at := goodIn_r _ [27, 16, 40, 41, 42, 43, 44, 45, 46, 47, 48, 49, 50, 51, 52, 53, 54, 55, 56, 57, 58, 59, 60, 61, 62, 63, 64, 65, 66, 67, 68, 69, 70, 71, 72, 73, 74, 75, 76, 77, 78, 79, 80, 81, 82, 83, 84, 85] (by decide +kernel) (by decide +kernel)
set_option maxRecDepth 20000 in
theorem gX10_block_X10_at : GoodIn wsX10_block (wsV RX10 125 RX10 yX10_at wsX10_at) := goodIn_app (goodIn_of _ (by decide +kernel)) ggX10_block_X10_at
set_option maxRecDepth 20000 in
theorem ggX10_block_X10_lengthBy : GoodIn wsX10_block wsX10_lengthBy := goodIn_r _ [30] (by decide +kernel) (by decide +kernel)
set_option maxRecDepth 20000 in
theorem gX10_block_X10_lengthBy : GoodIn wsX10_block (va_wsS RX10 188 yX10_lengthBy wsX10_lengthBy) := goodIn_app (goodIn_of _ (by decide +kernel)) ggX10_block_X10_lengthBy
set_option maxRecDepth 20000 in
theorem ggX10_block_X10_sizeAt : GoodIn wsX10_block wsX10_sizeAt := goodIn_r _ [34, 14, 24, 25, 26, 20, 27, 16, 40, 41, 42, 43, 44, 45, 46, 47, 48, 49, 50, 51, 52, 53, 54, 55, 56, 57, 58, 59, 60, 61, 62, 63, 64, 65, 66, 67, 68, 69, 70, 71, 72, 73, 74, 75, 76, 77, 78, 79, 80, 81, 82, 83, 84, 85] (by decide +kernel) (by decide +kernel)
set_option maxRecDepth 20000 in
theorem gX10_block_X10_sizeAt : GoodIn wsX10_block (wsV RX10 200 RX10 yX10_sizeAt wsX10_sizeAt) := goodIn_app (goodIn_of _ (by decide +kernel)) ggX10_block_X10_sizeAt
set_option maxRecDepth 20000 in
theorem ggX10_block_X10_laced : GoodIn wsX10_block wsX10_laced := goodIn_r _ [38, 4, 9, 14, 39, 24, 25, 26, 20, 27, 16, 28, 29, 30, 31, 32, 33, 34, 40, 41, 42, 43, 44, 45, 46, 47, 48, 49, 50, 51, 52, 53, 54, 55, 56, 57, 58, 59, 60, 61, 62, 63, 64, 65, 66, 67, 68, 69, 70, 71, 72, 73, 74, 75, 76, 77, 78, 79, 80, 81, 82, 83, 84, 85] (by decide +kernel) (by decide +kernel)
set_option maxRecDepth 20000 in
theorem gX10_block_X10_laced : GoodIn wsX10_block (wsV RX10 294 RX10 yX10_laced wsX10_laced) := goodIn_app (goodIn_of _ (by decide +kernel)) ggX10_block_X10_laced
theorem dX10_block_0 : decode cX10_block 0 = .ok (.aload_n 0, 1) := by decide +kernel
theorem dX10_block_1 : decode cX10_block 1 = .ok (.getfield 240, 3) := by decide +kernel
theorem dX10_block_4 : decode cX10_block 4 = .ok (.ifCond .ne 11, 3) := by decide +kernel
theorem dX10_block_7 : decode cX10_block 7 = .ok (.aload_n 0, 1) := by decide +kernel
theorem dX10_block_8 : decode cX10_block 8 = .ok (.bipush 7, 2) := by decide +kernel
theorem dX10_block_10 : decode cX10_block 10 = .ok (.iload_n 1, 1) := by decide +kernel
theorem dX10_block_11 : decode cX10_block 11 = .ok (.invokevirtual 151, 3) := by decide +kernel
theorem dX10_block_14 : decode cX10_block 14 = .ok (.ireturn, 1) := by decide +kernel
theorem dX10_block_15 : decode cX10_block 15 = .ok (.aload_n 0, 1) := by decide +kernel
theorem dX10_block_16 : decode cX10_block 16 = .ok (.dup, 1) := by decide +kernel
theorem dX10_block_17 : decode cX10_block 17 = .ok (.getfield 291, 3) := by decide +kernel
theorem dX10_block_20 : decode cX10_block 20 = .ok (.iconst 1, 1) := by decide +kernel
theorem dX10_block_21 : decode cX10_block 21 = .ok (.iadd, 1) := by decide +kernel
theorem dX10_block_22 : decode cX10_block 22 = .ok (.putfield 291, 3) := by decide +kernel
theorem dX10_block_25 : decode cX10_block 25 = .ok (.aload_n 0, 1) := by decide +kernel
theorem dX10_block_26 : decode cX10_block 26 = .ok (.getfield 194, 3) := by decide +kernel
theorem dX10_block_29 : decode cX10_block 29 = .ok (.istore_n 2, 1) := by decide +kernel
theorem dX10_block_30 : decode cX10_block 30 = .ok (.iload_n 2, 1) := by decide +kernel
theorem dX10_block_31 : decode cX10_block 31 = .ok (.aload_n 0, 1) := by decide +kernel
theorem dX10_block_32 : decode cX10_block 32 = .ok (.getfield 210, 3) := by decide +kernel
theorem dX10_block_35 : decode cX10_block 35 = .ok (.if_icmp .lt 10, 3) := by decide +kernel
theorem dX10_block_38 : decode cX10_block 38 = .ok (.aload_n 0, 1) := by decide +kernel
theorem dX10_block_39 : decode cX10_block 39 = .ok (.iconst 5, 1) := by decide +kernel
theorem dX10_block_40 : decode cX10_block 40 = .ok (.iload_n 1, 1) := by decide +kernel
theorem dX10_block_41 : decode cX10_block 41 = .ok (.invokevirtual 151, 3) := by decide +kernel
theorem dX10_block_44 : decode cX10_block 44 = .ok (.ireturn, 1) := by decide +kernel
theorem dX10_block_45 : decode cX10_block 45 = .ok (.aload_n 0, 1) := by decide +kernel
theorem dX10_block_46 : decode cX10_block 46 = .ok (.iload_n 2, 1) := by decide +kernel
theorem dX10_block_47 : decode cX10_block 47 = .ok (.invokevirtual 125, 3) := by decide +kernel
theorem dX10_block_50 : decode cX10_block 50 = .ok (.invokestatic 188, 3) := by decide +kernel
theorem dX10_block_53 : decode cX10_block 53 = .ok (.istore_n 3, 1) := by decide +kernel
theorem dX10_block_54 : decode cX10_block 54 = .ok (.iload_n 3, 1) := by decide +kernel
theorem dX10_block_55 : decode cX10_block 55 = .ok (.bipush 8, 2) := by decide +kernel
theorem dX10_block_57 : decode cX10_block 57 = .ok (.if_icmp .gt 30, 3) := by decide +kernel
theorem dX10_block_60 : decode cX10_block 60 = .ok (.iload_n 2, 1) := by decide +kernel
theorem dX10_block_61 : decode cX10_block 61 = .ok (.iload_n 3, 1) := by decide +kernel
theorem dX10_block_62 : decode cX10_block 62 = .ok (.iadd, 1) := by decide +kernel
theorem dX10_block_63 : decode cX10_block 63 = .ok (.iconst 3, 1) := by decide +kernel
theorem dX10_block_64 : decode cX10_block 64 = .ok (.iadd, 1) := by decide +kernel
theorem dX10_block_65 : decode cX10_block 65 = .ok (.aload_n 0, 1) := by decide +kernel
theorem dX10_block_66 : decode cX10_block 66 = .ok (.getfield 210, 3) := by decide +kernel
theorem dX10_block_69 : decode cX10_block 69 = .ok (.if_icmp .gt 18, 3) := by decide +kernel
theorem dX10_block_72 : decode cX10_block 72 = .ok (.aload_n 0, 1) := by decide +kernel
theorem dX10_block_73 : decode cX10_block 73 = .ok (.iload_n 2, 1) := by decide +kernel
theorem dX10_block_74 : decode cX10_block 74 = .ok (.iload_n 3, 1) := by decide +kernel
theorem dX10_block_75 : decode cX10_block 75 = .ok (.invokevirtual 200, 3) := by decide +kernel
theorem dX10_block_78 : decode cX10_block 78 = .ok (.aload_n 0, 1) := by decide +kernel
theorem dX10_block_79 : decode cX10_block 79 = .ok (.getfield 276, 3) := by decide +kernel
theorem dX10_block_82 : decode cX10_block 82 = .ok (.i2l, 1) := by decide +kernel
theorem dX10_block_83 : decode cX10_block 83 = .ok (.lcmp, 1) := by decide +kernel
theorem dX10_block_84 : decode cX10_block 84 = .ok (.ifCond .eq 10, 3) := by decide +kernel
theorem dX10_block_87 : decode cX10_block 87 = .ok (.aload_n 0, 1) := by decide +kernel
theorem dX10_block_88 : decode cX10_block 88 = .ok (.iconst 5, 1) := by decide +kernel
theorem dX10_block_89 : decode cX10_block 89 = .ok (.iload_n 1, 1) := by decide +kernel
theorem dX10_block_90 : decode cX10_block 90 = .ok (.invokevirtual 151, 3) := by decide +kernel
theorem dX10_block_93 : decode cX10_block 93 = .ok (.ireturn, 1) := by decide +kernel
theorem dX10_block_94 : decode cX10_block 94 = .ok (.iload_n 2, 1) := by decide +kernel
theorem dX10_block_95 : decode cX10_block 95 = .ok (.iload_n 3, 1) := by decide +kernel
theorem dX10_block_96 : decode cX10_block 96 = .ok (.iadd, 1) := by decide +kernel
theorem dX10_block_97 : decode cX10_block 97 = .ok (.istore_n 2, 1) := by decide +kernel
theorem dX10_block_98 : decode cX10_block 98 = .ok (.aload_n 0, 1) := by decide +kernel
theorem dX10_block_99 : decode cX10_block 99 = .ok (.getfield 283, 3) := by decide +kernel
theorem dX10_block_102 : decode cX10_block 102 = .ok (.aload_n 0, 1) := by decide +kernel
theorem dX10_block_103 : decode cX10_block 103 = .ok (.iload_n 2, 1) := by decide +kernel
theorem dX10_block_104 : decode cX10_block 104 = .ok (.invokevirtual 125, 3) := by decide +kernel
theorem dX10_block_107 : decode cX10_block 107 = .ok (.bipush 8, 2) := by decide +kernel
theorem dX10_block_109 : decode cX10_block 109 = .ok (.ishl, 1) := by decide +kernel
theorem dX10_block_110 : decode cX10_block 110 = .ok (.aload_n 0, 1) := by decide +kernel
theorem dX10_block_111 : decode cX10_block 111 = .ok (.iload_n 2, 1) := by decide +kernel
theorem dX10_block_112 : decode cX10_block 112 = .ok (.iconst 1, 1) := by decide +kernel
theorem dX10_block_113 : decode cX10_block 113 = .ok (.iadd, 1) := by decide +kernel
theorem dX10_block_114 : decode cX10_block 114 = .ok (.invokevirtual 125, 3) := by decide +kernel
theorem dX10_block_117 : decode cX10_block 117 = .ok (.ior, 1) := by decide +kernel
theorem dX10_block_118 : decode cX10_block 118 = .ok (.i2s, 1) := by decide +kernel
theorem dX10_block_119 : decode cX10_block 119 = .ok (.i2l, 1) := by decide +kernel
theorem dX10_block_120 : decode cX10_block 120 = .ok (.ladd, 1) := by decide +kernel
theorem dX10_block_121 : decode cX10_block 121 = .ok (.lstore 4, 2) := by decide +kernel
theorem dX10_block_123 : decode cX10_block 123 = .ok (.aload_n 0, 1) := by decide +kernel
theorem dX10_block_124 : decode cX10_block 124 = .ok (.iload_n 2, 1) := by decide +kernel
theorem dX10_block_125 : decode cX10_block 125 = .ok (.iconst 2, 1) := by decide +kernel
theorem dX10_block_126 : decode cX10_block 126 = .ok (.iadd, 1) := by decide +kernel
theorem dX10_block_127 : decode cX10_block 127 = .ok (.invokevirtual 125, 3) := by decide +kernel
theorem dX10_block_130 : decode cX10_block 130 = .ok (.istore 6, 2) := by decide +kernel
theorem dX10_block_132 : decode cX10_block 132 = .ok (.iinc 2 3, 3) := by decide +kernel
theorem dX10_block_135 : decode cX10_block 135 = .ok (.aload_n 0, 1) := by decide +kernel
theorem dX10_block_136 : decode cX10_block 136 = .ok (.getfield 191, 3) := by decide +kernel
theorem dX10_block_139 : decode cX10_block 139 = .ok (.sipush 163, 3) := by decide +kernel
theorem dX10_block_142 : decode cX10_block 142 = .ok (.if_icmp .ne 7, 3) := by decide +kernel
theorem dX10_block_145 : decode cX10_block 145 = .ok (.iconst 1, 1) := by decide +kernel
theorem dX10_block_146 : decode cX10_block 146 = .ok (.goto 4, 3) := by decide +kernel
theorem dX10_block_149 : decode cX10_block 149 = .ok (.iconst 0, 1) := by decide +kernel
theorem dX10_block_150 : decode cX10_block 150 = .ok (.istore 7, 2) := by decide +kernel
theorem dX10_block_152 : decode cX10_block 152 = .ok (.lload 4, 2) := by decide +kernel
theorem dX10_block_154 : decode cX10_block 154 = .ok (.lconst 0, 1) := by decide +kernel
theorem dX10_block_155 : decode cX10_block 155 = .ok (.lcmp, 1) := by decide +kernel
theorem dX10_block_156 : decode cX10_block 156 = .ok (.ifCond .lt 34, 3) := by decide +kernel
theorem dX10_block_159 : decode cX10_block 159 = .ok (.lload 4, 2) := by decide +kernel
theorem dX10_block_161 : decode cX10_block 161 = .ok (.ldc2_w 67, 3) := by decide +kernel
theorem dX10_block_164 : decode cX10_block 164 = .ok (.lcmp, 1) := by decide +kernel
theorem dX10_block_165 : decode cX10_block 165 = .ok (.ifCond .gt 25, 3) := by decide +kernel
theorem dX10_block_168 : decode cX10_block 168 = .ok (.iload 6, 2) := by decide +kernel
theorem dX10_block_170 : decode cX10_block 170 = .ok (.bipush 112, 2) := by decide +kernel
theorem dX10_block_172 : decode cX10_block 172 = .ok (.iand, 1) := by decide +kernel
theorem dX10_block_173 : decode cX10_block 173 = .ok (.ifCond .ne 17, 3) := by decide +kernel
theorem dX10_block_176 : decode cX10_block 176 = .ok (.iload 7, 2) := by decide +kernel
theorem dX10_block_178 : decode cX10_block 178 = .ok (.ifCond .ne 19, 3) := by decide +kernel
theorem dX10_block_181 : decode cX10_block 181 = .ok (.iload 6, 2) := by decide +kernel
theorem dX10_block_183 : decode cX10_block 183 = .ok (.sipush 129, 3) := by decide +kernel
theorem dX10_block_186 : decode cX10_block 186 = .ok (.iand, 1) := by decide +kernel
theorem dX10_block_187 : decode cX10_block 187 = .ok (.ifCond .eq 10, 3) := by decide +kernel
theorem dX10_block_190 : decode cX10_block 190 = .ok (.aload_n 0, 1) := by decide +kernel
theorem dX10_block_191 : decode cX10_block 191 = .ok (.iconst 5, 1) := by decide +kernel
theorem dX10_block_192 : decode cX10_block 192 = .ok (.iload_n 1, 1) := by decide +kernel
theorem dX10_block_193 : decode cX10_block 193 = .ok (.invokevirtual 151, 3) := by decide +kernel
theorem dX10_block_196 : decode cX10_block 196 = .ok (.ireturn, 1) := by decide +kernel
theorem dX10_block_197 : decode cX10_block 197 = .ok (.iconst 1, 1) := by decide +kernel
theorem dX10_block_198 : decode cX10_block 198 = .ok (.istore 8, 2) := by decide +kernel
theorem dX10_block_200 : decode cX10_block 200 = .ok (.iload 6, 2) := by decide +kernel
theorem dX10_block_202 : decode cX10_block 202 = .ok (.iconst 1, 1) := by decide +kernel
theorem dX10_block_203 : decode cX10_block 203 = .ok (.ishr, 1) := by decide +kernel
theorem dX10_block_204 : decode cX10_block 204 = .ok (.iconst 3, 1) := by decide +kernel
theorem dX10_block_205 : decode cX10_block 205 = .ok (.iand, 1) := by decide +kernel
theorem dX10_block_206 : decode cX10_block 206 = .ok (.istore 9, 2) := by decide +kernel
theorem dX10_block_208 : decode cX10_block 208 = .ok (.iload 9, 2) := by decide +kernel
theorem dX10_block_210 : decode cX10_block 210 = .ok (.ifCond .le 51, 3) := by decide +kernel
theorem dX10_block_213 : decode cX10_block 213 = .ok (.iload_n 2, 1) := by decide +kernel
theorem dX10_block_214 : decode cX10_block 214 = .ok (.aload_n 0, 1) := by decide +kernel
theorem dX10_block_215 : decode cX10_block 215 = .ok (.getfield 210, 3) := by decide +kernel
theorem dX10_block_218 : decode cX10_block 218 = .ok (.if_icmp .lt 10, 3) := by decide +kernel
theorem dX10_block_221 : decode cX10_block 221 = .ok (.aload_n 0, 1) := by decide +kernel
theorem dX10_block_222 : decode cX10_block 222 = .ok (.iconst 5, 1) := by decide +kernel
theorem dX10_block_223 : decode cX10_block 223 = .ok (.iload_n 1, 1) := by decide +kernel
theorem dX10_block_224 : decode cX10_block 224 = .ok (.invokevirtual 151, 3) := by decide +kernel
theorem dX10_block_227 : decode cX10_block 227 = .ok (.ireturn, 1) := by decide +kernel
theorem dX10_block_228 : decode cX10_block 228 = .ok (.aload_n 0, 1) := by decide +kernel
theorem dX10_block_229 : decode cX10_block 229 = .ok (.iload_n 2, 1) := by decide +kernel
theorem dX10_block_230 : decode cX10_block 230 = .ok (.invokevirtual 125, 3) := by decide +kernel
theorem dX10_block_233 : decode cX10_block 233 = .ok (.iconst 1, 1) := by decide +kernel
theorem dX10_block_234 : decode cX10_block 234 = .ok (.iadd, 1) := by decide +kernel
theorem dX10_block_235 : decode cX10_block 235 = .ok (.istore 8, 2) := by decide +kernel
theorem dX10_block_237 : decode cX10_block 237 = .ok (.aload_n 0, 1) := by decide +kernel
theorem dX10_block_238 : decode cX10_block 238 = .ok (.iload_n 2, 1) := by decide +kernel
theorem dX10_block_239 : decode cX10_block 239 = .ok (.iconst 1, 1) := by decide +kernel
theorem dX10_block_240 : decode cX10_block 240 = .ok (.iadd, 1) := by decide +kernel
theorem dX10_block_241 : decode cX10_block 241 = .ok (.iload 8, 2) := by decide +kernel
theorem dX10_block_243 : decode cX10_block 243 = .ok (.iload 9, 2) := by decide +kernel
theorem dX10_block_245 : decode cX10_block 245 = .ok (.invokevirtual 294, 3) := by decide +kernel
theorem dX10_block_248 : decode cX10_block 248 = .ok (.istore_n 2, 1) := by decide +kernel
theorem dX10_block_249 : decode cX10_block 249 = .ok (.iload_n 2, 1) := by decide +kernel
theorem dX10_block_250 : decode cX10_block 250 = .ok (.iconst (-1), 1) := by decide +kernel
theorem dX10_block_251 : decode cX10_block 251 = .ok (.if_icmp .ne 10, 3) := by decide +kernel
theorem dX10_block_254 : decode cX10_block 254 = .ok (.aload_n 0, 1) := by decide +kernel
theorem dX10_block_255 : decode cX10_block 255 = .ok (.iconst 5, 1) := by decide +kernel
theorem dX10_block_256 : decode cX10_block 256 = .ok (.iload_n 1, 1) := by decide +kernel
theorem dX10_block_257 : decode cX10_block 257 = .ok (.invokevirtual 151, 3) := by decide +kernel
theorem dX10_block_260 : decode cX10_block 260 = .ok (.ireturn, 1) := by decide +kernel
theorem dX10_block_261 : decode cX10_block 261 = .ok (.lconst 0, 1) := by decide +kernel
theorem dX10_block_262 : decode cX10_block 262 = .ok (.lstore 10, 2) := by decide +kernel
theorem dX10_block_264 : decode cX10_block 264 = .ok (.iconst 0, 1) := by decide +kernel
theorem dX10_block_265 : decode cX10_block 265 = .ok (.istore 12, 2) := by decide +kernel
theorem dX10_block_267 : decode cX10_block 267 = .ok (.iload 12, 2) := by decide +kernel
theorem dX10_block_269 : decode cX10_block 269 = .ok (.iload 8, 2) := by decide +kernel
theorem dX10_block_271 : decode cX10_block 271 = .ok (.iconst 1, 1) := by decide +kernel
theorem dX10_block_272 : decode cX10_block 272 = .ok (.isub, 1) := by decide +kernel
theorem dX10_block_273 : decode cX10_block 273 = .ok (.if_icmp .ge 22, 3) := by decide +kernel
theorem dX10_block_276 : decode cX10_block 276 = .ok (.lload 10, 2) := by decide +kernel
theorem dX10_block_278 : decode cX10_block 278 = .ok (.aload_n 0, 1) := by decide +kernel
theorem dX10_block_279 : decode cX10_block 279 = .ok (.getfield 43, 3) := by decide +kernel
theorem dX10_block_282 : decode cX10_block 282 = .ok (.iload 12, 2) := by decide +kernel
theorem dX10_block_284 : decode cX10_block 284 = .ok (.iaload, 1) := by decide +kernel
theorem dX10_block_285 : decode cX10_block 285 = .ok (.i2l, 1) := by decide +kernel
theorem dX10_block_286 : decode cX10_block 286 = .ok (.ladd, 1) := by decide +kernel
theorem dX10_block_287 : decode cX10_block 287 = .ok (.lstore 10, 2) := by decide +kernel
theorem dX10_block_289 : decode cX10_block 289 = .ok (.iinc 12 1, 3) := by decide +kernel
theorem dX10_block_292 : decode cX10_block 292 = .ok (.goto (-25), 3) := by decide +kernel
theorem dX10_block_295 : decode cX10_block 295 = .ok (.lload 10, 2) := by decide +kernel
theorem dX10_block_297 : decode cX10_block 297 = .ok (.aload_n 0, 1) := by decide +kernel
theorem dX10_block_298 : decode cX10_block 298 = .ok (.getfield 210, 3) := by decide +kernel
theorem dX10_block_301 : decode cX10_block 301 = .ok (.iload_n 2, 1) := by decide +kernel
theorem dX10_block_302 : decode cX10_block 302 = .ok (.isub, 1) := by decide +kernel
theorem dX10_block_303 : decode cX10_block 303 = .ok (.i2l, 1) := by decide +kernel
theorem dX10_block_304 : decode cX10_block 304 = .ok (.lcmp, 1) := by decide +kernel
theorem dX10_block_305 : decode cX10_block 305 = .ok (.ifCond .le 10, 3) := by decide +kernel
theorem dX10_block_308 : decode cX10_block 308 = .ok (.aload_n 0, 1) := by decide +kernel
theorem dX10_block_309 : decode cX10_block 309 = .ok (.iconst 5, 1) := by decide +kernel
theorem dX10_block_310 : decode cX10_block 310 = .ok (.iload_n 1, 1) := by decide +kernel
theorem dX10_block_311 : decode cX10_block 311 = .ok (.invokevirtual 151, 3) := by decide +kernel
theorem dX10_block_314 : decode cX10_block 314 = .ok (.ireturn, 1) := by decide +kernel
theorem dX10_block_315 : decode cX10_block 315 = .ok (.aload_n 0, 1) := by decide +kernel
theorem dX10_block_316 : decode cX10_block 316 = .ok (.getfield 43, 3) := by decide +kernel
theorem dX10_block_319 : decode cX10_block 319 = .ok (.iload 8, 2) := by decide +kernel
theorem dX10_block_321 : decode cX10_block 321 = .ok (.iconst 1, 1) := by decide +kernel
theorem dX10_block_322 : decode cX10_block 322 = .ok (.isub, 1) := by decide +kernel
theorem dX10_block_323 : decode cX10_block 323 = .ok (.aload_n 0, 1) := by decide +kernel
theorem dX10_block_324 : decode cX10_block 324 = .ok (.getfield 210, 3) := by decide +kernel
theorem dX10_block_327 : decode cX10_block 327 = .ok (.iload_n 2, 1) := by decide +kernel
theorem dX10_block_328 : decode cX10_block 328 = .ok (.isub, 1) := by decide +kernel
theorem dX10_block_329 : decode cX10_block 329 = .ok (.lload 10, 2) := by decide +kernel
theorem dX10_block_331 : decode cX10_block 331 = .ok (.l2i, 1) := by decide +kernel
theorem dX10_block_332 : decode cX10_block 332 = .ok (.isub, 1) := by decide +kernel
theorem dX10_block_333 : decode cX10_block 333 = .ok (.iastore, 1) := by decide +kernel
theorem dX10_block_334 : decode cX10_block 334 = .ok (.aload_n 0, 1) := by decide +kernel
theorem dX10_block_335 : decode cX10_block 335 = .ok (.getfield 75, 3) := by decide +kernel
theorem dX10_block_338 : decode cX10_block 338 = .ok (.iload 8, 2) := by decide +kernel
theorem dX10_block_340 : decode cX10_block 340 = .ok (.iadd, 1) := by decide +kernel
theorem dX10_block_341 : decode cX10_block 341 = .ok (.bipush 64, 2) := by decide +kernel
theorem dX10_block_343 : decode cX10_block 343 = .ok (.if_icmp .gt 20, 3) := by decide +kernel
theorem dX10_block_346 : decode cX10_block 346 = .ok (.aload_n 0, 1) := by decide +kernel
theorem dX10_block_347 : decode cX10_block 347 = .ok (.getfield 78, 3) := by decide +kernel
theorem dX10_block_350 : decode cX10_block 350 = .ok (.aload_n 0, 1) := by decide +kernel
theorem dX10_block_351 : decode cX10_block 351 = .ok (.getfield 210, 3) := by decide +kernel
theorem dX10_block_354 : decode cX10_block 354 = .ok (.iadd, 1) := by decide +kernel
theorem dX10_block_355 : decode cX10_block 355 = .ok (.iload_n 2, 1) := by decide +kernel
theorem dX10_block_356 : decode cX10_block 356 = .ok (.isub, 1) := by decide +kernel
theorem dX10_block_357 : decode cX10_block 357 = .ok (.sipush 2400, 3) := by decide +kernel
theorem dX10_block_360 : decode cX10_block 360 = .ok (.if_icmp .le 11, 3) := by decide +kernel
theorem dX10_block_363 : decode cX10_block 363 = .ok (.aload_n 0, 1) := by decide +kernel
theorem dX10_block_364 : decode cX10_block 364 = .ok (.bipush 6, 2) := by decide +kernel
theorem dX10_block_366 : decode cX10_block 366 = .ok (.iload_n 1, 1) := by decide +kernel
theorem dX10_block_367 : decode cX10_block 367 = .ok (.invokevirtual 151, 3) := by decide +kernel
theorem dX10_block_370 : decode cX10_block 370 = .ok (.ireturn, 1) := by decide +kernel
theorem dX10_block_371 : decode cX10_block 371 = .ok (.iconst 0, 1) := by decide +kernel
theorem dX10_block_372 : decode cX10_block 372 = .ok (.istore 12, 2) := by decide +kernel
theorem dX10_block_374 : decode cX10_block 374 = .ok (.iload 12, 2) := by decide +kernel
theorem dX10_block_376 : decode cX10_block 376 = .ok (.iload 8, 2) := by decide +kernel
theorem dX10_block_378 : decode cX10_block 378 = .ok (.if_icmp .ge 57, 3) := by decide +kernel
theorem dX10_block_381 : decode cX10_block 381 = .ok (.aload_n 0, 1) := by decide +kernel
theorem dX10_block_382 : decode cX10_block 382 = .ok (.getfield 23, 3) := by decide +kernel
theorem dX10_block_385 : decode cX10_block 385 = .ok (.aload_n 0, 1) := by decide +kernel
theorem dX10_block_386 : decode cX10_block 386 = .ok (.getfield 75, 3) := by decide +kernel
theorem dX10_block_389 : decode cX10_block 389 = .ok (.aload_n 0, 1) := by decide +kernel
theorem dX10_block_390 : decode cX10_block 390 = .ok (.getfield 43, 3) := by decide +kernel
theorem dX10_block_393 : decode cX10_block 393 = .ok (.iload 12, 2) := by decide +kernel
theorem dX10_block_395 : decode cX10_block 395 = .ok (.iaload, 1) := by decide +kernel
theorem dX10_block_396 : decode cX10_block 396 = .ok (.iastore, 1) := by decide +kernel
theorem dX10_block_397 : decode cX10_block 397 = .ok (.aload_n 0, 1) := by decide +kernel
theorem dX10_block_398 : decode cX10_block 398 = .ok (.getfield 30, 3) := by decide +kernel
theorem dX10_block_401 : decode cX10_block 401 = .ok (.aload_n 0, 1) := by decide +kernel
theorem dX10_block_402 : decode cX10_block 402 = .ok (.getfield 75, 3) := by decide +kernel
theorem dX10_block_405 : decode cX10_block 405 = .ok (.iload 12, 2) := by decide +kernel
theorem dX10_block_407 : decode cX10_block 407 = .ok (.ifCond .ne 8, 3) := by decide +kernel
theorem dX10_block_410 : decode cX10_block 410 = .ok (.lload 4, 2) := by decide +kernel
theorem dX10_block_412 : decode cX10_block 412 = .ok (.goto 6, 3) := by decide +kernel
theorem dX10_block_415 : decode cX10_block 415 = .ok (.ldc2_w 65, 3) := by decide +kernel
theorem dX10_block_418 : decode cX10_block 418 = .ok (.lastore, 1) := by decide +kernel
theorem dX10_block_419 : decode cX10_block 419 = .ok (.aload_n 0, 1) := by decide +kernel
theorem dX10_block_420 : decode cX10_block 420 = .ok (.dup, 1) := by decide +kernel
theorem dX10_block_421 : decode cX10_block 421 = .ok (.getfield 75, 3) := by decide +kernel
theorem dX10_block_424 : decode cX10_block 424 = .ok (.iconst 1, 1) := by decide +kernel
theorem dX10_block_425 : decode cX10_block 425 = .ok (.iadd, 1) := by decide +kernel
theorem dX10_block_426 : decode cX10_block 426 = .ok (.putfield 75, 3) := by decide +kernel
theorem dX10_block_429 : decode cX10_block 429 = .ok (.iinc 12 1, 3) := by decide +kernel
theorem dX10_block_432 : decode cX10_block 432 = .ok (.goto (-58), 3) := by decide +kernel
theorem dX10_block_435 : decode cX10_block 435 = .ok (.iload_n 2, 1) := by decide +kernel
theorem dX10_block_436 : decode cX10_block 436 = .ok (.istore 12, 2) := by decide +kernel
theorem dX10_block_438 : decode cX10_block 438 = .ok (.iload 12, 2) := by decide +kernel
theorem dX10_block_440 : decode cX10_block 440 = .ok (.aload_n 0, 1) := by decide +kernel
theorem dX10_block_441 : decode cX10_block 441 = .ok (.getfield 210, 3) := by decide +kernel
theorem dX10_block_444 : decode cX10_block 444 = .ok (.if_icmp .ge 35, 3) := by decide +kernel
theorem dX10_block_447 : decode cX10_block 447 = .ok (.aload_n 0, 1) := by decide +kernel
theorem dX10_block_448 : decode cX10_block 448 = .ok (.getfield 36, 3) := by decide +kernel
theorem dX10_block_451 : decode cX10_block 451 = .ok (.aload_n 0, 1) := by decide +kernel
theorem dX10_block_452 : decode cX10_block 452 = .ok (.getfield 78, 3) := by decide +kernel
theorem dX10_block_455 : decode cX10_block 455 = .ok (.aload_n 0, 1) := by decide +kernel
theorem dX10_block_456 : decode cX10_block 456 = .ok (.getfield 7, 3) := by decide +kernel
theorem dX10_block_459 : decode cX10_block 459 = .ok (.iload 12, 2) := by decide +kernel
theorem dX10_block_461 : decode cX10_block 461 = .ok (.baload, 1) := by decide +kernel
theorem dX10_block_462 : decode cX10_block 462 = .ok (.bastore, 1) := by decide +kernel
theorem dX10_block_463 : decode cX10_block 463 = .ok (.aload_n 0, 1) := by decide +kernel
theorem dX10_block_464 : decode cX10_block 464 = .ok (.dup, 1) := by decide +kernel
theorem dX10_block_465 : decode cX10_block 465 = .ok (.getfield 78, 3) := by decide +kernel
theorem dX10_block_468 : decode cX10_block 468 = .ok (.iconst 1, 1) := by decide +kernel
theorem dX10_block_469 : decode cX10_block 469 = .ok (.iadd, 1) := by decide +kernel
theorem dX10_block_470 : decode cX10_block 470 = .ok (.putfield 78, 3) := by decide +kernel
theorem dX10_block_473 : decode cX10_block 473 = .ok (.iinc 12 1, 3) := by decide +kernel
theorem dX10_block_476 : decode cX10_block 476 = .ok (.goto (-38), 3) := by decide +kernel
theorem dX10_block_479 : decode cX10_block 479 = .ok (.iconst 1, 1) := by decide +kernel
theorem dX10_block_480 : decode cX10_block 480 = .ok (.ireturn, 1) := by decide +kernel
set_option maxRecDepth 20000 in
theorem ggX10_laced_X10_at : GoodIn wsX10_laced wsX10_at := goodIn_r _ [9, 10, 18, 19, 20, 21, 22, 23, 24, 25, 26, 27, 28, 29, 30, 31, 32, 33, 34, 35, 36, 37, 38, 39, 40, 41, 42, 43, 44, 45, 46, 47, 48, 49, 50, 51, 52, 53, 54, 55, 56, 57, 58, 59, 60, 61, 62, 63] (by decide +kernel) (by decide +kernel)
set_option maxRecDepth 20000 in
theorem gX10_laced_X10_at : GoodIn wsX10_laced (wsV RX10 125 RX10 yX10_at wsX10_at) := goodIn_app (goodIn_of _ (by decide +kernel)) ggX10_laced_X10_at
set_option maxRecDepth 20000 in
theorem ggX10_laced_X10_lengthBy : GoodIn wsX10_laced wsX10_lengthBy := goodIn_r _ [13] (by decide +kernel) (by decide +kernel)
set_option maxRecDepth 20000 in
theorem gX10_laced_X10_lengthBy : GoodIn wsX10_laced (va_wsS RX10 188 yX10_lengthBy wsX10_lengthBy) := goodIn_app (goodIn_of _ (by decide +kernel)) ggX10_laced_X10_lengthBy
set_option maxRecDepth 20000 in
theorem ggX10_laced_X10_sizeAt : GoodIn wsX10_laced wsX10_sizeAt := goodIn_r _ [17, 3, 5, 6, 7, 8, 9, 10, 18, 19, 20, 21, 22, 23, 24, 25, 26, 27, 28, 29, 30, 31, 32, 33, 34, 35, 36, 37, 38, 39, 40, 41, 42, 43, 44, 45, 46, 47, 48, 49, 50, 51, 52, 53, 54, 55, 56, 57, 58, 59, 60, 61, 62, 63] (by decide +kernel) (by decide +kernel)
set_option maxRecDepth 20000 in
theorem gX10_laced_X10_sizeAt : GoodIn wsX10_laced (wsV RX10 200 RX10 yX10_sizeAt wsX10_sizeAt) := goodIn_app (goodIn_of _ (by decide +kernel)) ggX10_laced_X10_sizeAt
theorem dX10_laced_0 : decode cX10_laced 0 = .ok (.iload_n 1, 1) := by decide +kernel
theorem dX10_laced_1 : decode cX10_laced 1 = .ok (.istore 4, 2) := by decide +kernel
theorem dX10_laced_3 : decode cX10_laced 3 = .ok (.iload_n 3, 1) := by decide +kernel
theorem dX10_laced_4 : decode cX10_laced 4 = .ok (.iconst 2, 1) := by decide +kernel
theorem dX10_laced_5 : decode cX10_laced 5 = .ok (.if_icmp .ne 51, 3) := by decide +kernel
theorem dX10_laced_8 : decode cX10_laced 8 = .ok (.aload_n 0, 1) := by decide +kernel
theorem dX10_laced_9 : decode cX10_laced 9 = .ok (.getfield 210, 3) := by decide +kernel
theorem dX10_laced_12 : decode cX10_laced 12 = .ok (.iload 4, 2) := by decide +kernel
theorem dX10_laced_14 : decode cX10_laced 14 = .ok (.isub, 1) := by decide +kernel
theorem dX10_laced_15 : decode cX10_laced 15 = .ok (.iload_n 2, 1) := by decide +kernel
theorem dX10_laced_16 : decode cX10_laced 16 = .ok (.irem, 1) := by decide +kernel
theorem dX10_laced_17 : decode cX10_laced 17 = .ok (.ifCond .eq 5, 3) := by decide +kernel
theorem dX10_laced_20 : decode cX10_laced 20 = .ok (.iconst (-1), 1) := by decide +kernel
theorem dX10_laced_21 : decode cX10_laced 21 = .ok (.ireturn, 1) := by decide +kernel
theorem dX10_laced_22 : decode cX10_laced 22 = .ok (.iconst 0, 1) := by decide +kernel
theorem dX10_laced_23 : decode cX10_laced 23 = .ok (.istore 5, 2) := by decide +kernel
theorem dX10_laced_25 : decode cX10_laced 25 = .ok (.iload 5, 2) := by decide +kernel
theorem dX10_laced_27 : decode cX10_laced 27 = .ok (.iload_n 2, 1) := by decide +kernel
theorem dX10_laced_28 : decode cX10_laced 28 = .ok (.if_icmp .ge 25, 3) := by decide +kernel
theorem dX10_laced_31 : decode cX10_laced 31 = .ok (.aload_n 0, 1) := by decide +kernel
theorem dX10_laced_32 : decode cX10_laced 32 = .ok (.getfield 43, 3) := by decide +kernel
theorem dX10_laced_35 : decode cX10_laced 35 = .ok (.iload 5, 2) := by decide +kernel
theorem dX10_laced_37 : decode cX10_laced 37 = .ok (.aload_n 0, 1) := by decide +kernel
theorem dX10_laced_38 : decode cX10_laced 38 = .ok (.getfield 210, 3) := by decide +kernel
theorem dX10_laced_41 : decode cX10_laced 41 = .ok (.iload 4, 2) := by decide +kernel
theorem dX10_laced_43 : decode cX10_laced 43 = .ok (.isub, 1) := by decide +kernel
theorem dX10_laced_44 : decode cX10_laced 44 = .ok (.iload_n 2, 1) := by decide +kernel
theorem dX10_laced_45 : decode cX10_laced 45 = .ok (.idiv, 1) := by decide +kernel
theorem dX10_laced_46 : decode cX10_laced 46 = .ok (.iastore, 1) := by decide +kernel
theorem dX10_laced_47 : decode cX10_laced 47 = .ok (.iinc 5 1, 3) := by decide +kernel
theorem dX10_laced_50 : decode cX10_laced 50 = .ok (.goto (-25), 3) := by decide +kernel
theorem dX10_laced_53 : decode cX10_laced 53 = .ok (.iload 4, 2) := by decide +kernel
theorem dX10_laced_55 : decode cX10_laced 55 = .ok (.ireturn, 1) := by decide +kernel
theorem dX10_laced_56 : decode cX10_laced 56 = .ok (.iconst 0, 1) := by decide +kernel
theorem dX10_laced_57 : decode cX10_laced 57 = .ok (.istore 5, 2) := by decide +kernel
theorem dX10_laced_59 : decode cX10_laced 59 = .ok (.iload 5, 2) := by decide +kernel
theorem dX10_laced_61 : decode cX10_laced 61 = .ok (.iload_n 2, 1) := by decide +kernel
theorem dX10_laced_62 : decode cX10_laced 62 = .ok (.iconst 1, 1) := by decide +kernel
theorem dX10_laced_63 : decode cX10_laced 63 = .ok (.isub, 1) := by decide +kernel
theorem dX10_laced_64 : decode cX10_laced 64 = .ok (.if_icmp .ge 217, 3) := by decide +kernel
theorem dX10_laced_67 : decode cX10_laced 67 = .ok (.iload_n 3, 1) := by decide +kernel
theorem dX10_laced_68 : decode cX10_laced 68 = .ok (.iconst 1, 1) := by decide +kernel
theorem dX10_laced_69 : decode cX10_laced 69 = .ok (.if_icmp .ne 72, 3) := by decide +kernel
theorem dX10_laced_72 : decode cX10_laced 72 = .ok (.iconst 0, 1) := by decide +kernel
theorem dX10_laced_73 : decode cX10_laced 73 = .ok (.istore 6, 2) := by decide +kernel
theorem dX10_laced_75 : decode cX10_laced 75 = .ok (.iload 4, 2) := by decide +kernel
theorem dX10_laced_77 : decode cX10_laced 77 = .ok (.aload_n 0, 1) := by decide +kernel
theorem dX10_laced_78 : decode cX10_laced 78 = .ok (.getfield 210, 3) := by decide +kernel
theorem dX10_laced_81 : decode cX10_laced 81 = .ok (.if_icmp .ge 27, 3) := by decide +kernel
theorem dX10_laced_84 : decode cX10_laced 84 = .ok (.aload_n 0, 1) := by decide +kernel
theorem dX10_laced_85 : decode cX10_laced 85 = .ok (.iload 4, 2) := by decide +kernel
theorem dX10_laced_87 : decode cX10_laced 87 = .ok (.invokevirtual 125, 3) := by decide +kernel
theorem dX10_laced_90 : decode cX10_laced 90 = .ok (.sipush 255, 3) := by decide +kernel
theorem dX10_laced_93 : decode cX10_laced 93 = .ok (.if_icmp .ne 15, 3) := by decide +kernel
theorem dX10_laced_96 : decode cX10_laced 96 = .ok (.iinc 6 255, 6) := by decide +kernel
theorem dX10_laced_102 : decode cX10_laced 102 = .ok (.iinc 4 1, 3) := by decide +kernel
theorem dX10_laced_105 : decode cX10_laced 105 = .ok (.goto (-30), 3) := by decide +kernel
theorem dX10_laced_108 : decode cX10_laced 108 = .ok (.iload 4, 2) := by decide +kernel
theorem dX10_laced_110 : decode cX10_laced 110 = .ok (.aload_n 0, 1) := by decide +kernel
theorem dX10_laced_111 : decode cX10_laced 111 = .ok (.getfield 210, 3) := by decide +kernel
theorem dX10_laced_114 : decode cX10_laced 114 = .ok (.if_icmp .lt 5, 3) := by decide +kernel
theorem dX10_laced_117 : decode cX10_laced 117 = .ok (.iconst (-1), 1) := by decide +kernel
theorem dX10_laced_118 : decode cX10_laced 118 = .ok (.ireturn, 1) := by decide +kernel
theorem dX10_laced_119 : decode cX10_laced 119 = .ok (.aload_n 0, 1) := by decide +kernel
theorem dX10_laced_120 : decode cX10_laced 120 = .ok (.getfield 43, 3) := by decide +kernel
theorem dX10_laced_123 : decode cX10_laced 123 = .ok (.iload 5, 2) := by decide +kernel
theorem dX10_laced_125 : decode cX10_laced 125 = .ok (.iload 6, 2) := by decide +kernel
theorem dX10_laced_127 : decode cX10_laced 127 = .ok (.aload_n 0, 1) := by decide +kernel
theorem dX10_laced_128 : decode cX10_laced 128 = .ok (.iload 4, 2) := by decide +kernel
theorem dX10_laced_130 : decode cX10_laced 130 = .ok (.invokevirtual 125, 3) := by decide +kernel
theorem dX10_laced_133 : decode cX10_laced 133 = .ok (.iadd, 1) := by decide +kernel
theorem dX10_laced_134 : decode cX10_laced 134 = .ok (.iastore, 1) := by decide +kernel
theorem dX10_laced_135 : decode cX10_laced 135 = .ok (.iinc 4 1, 3) := by decide +kernel
theorem dX10_laced_138 : decode cX10_laced 138 = .ok (.goto 137, 3) := by decide +kernel
theorem dX10_laced_141 : decode cX10_laced 141 = .ok (.iload 4, 2) := by decide +kernel
theorem dX10_laced_143 : decode cX10_laced 143 = .ok (.aload_n 0, 1) := by decide +kernel
theorem dX10_laced_144 : decode cX10_laced 144 = .ok (.getfield 210, 3) := by decide +kernel
theorem dX10_laced_147 : decode cX10_laced 147 = .ok (.if_icmp .ge 15, 3) := by decide +kernel
theorem dX10_laced_150 : decode cX10_laced 150 = .ok (.aload_n 0, 1) := by decide +kernel
theorem dX10_laced_151 : decode cX10_laced 151 = .ok (.iload 4, 2) := by decide +kernel
theorem dX10_laced_153 : decode cX10_laced 153 = .ok (.invokevirtual 125, 3) := by decide +kernel
theorem dX10_laced_156 : decode cX10_laced 156 = .ok (.invokestatic 188, 3) := by decide +kernel
theorem dX10_laced_159 : decode cX10_laced 159 = .ok (.goto 5, 3) := by decide +kernel
theorem dX10_laced_162 : decode cX10_laced 162 = .ok (.bipush 9, 2) := by decide +kernel
theorem dX10_laced_164 : decode cX10_laced 164 = .ok (.istore 6, 2) := by decide +kernel
theorem dX10_laced_166 : decode cX10_laced 166 = .ok (.iload 6, 2) := by decide +kernel
theorem dX10_laced_168 : decode cX10_laced 168 = .ok (.bipush 8, 2) := by decide +kernel
theorem dX10_laced_170 : decode cX10_laced 170 = .ok (.if_icmp .gt 15, 3) := by decide +kernel
theorem dX10_laced_173 : decode cX10_laced 173 = .ok (.iload 4, 2) := by decide +kernel
theorem dX10_laced_175 : decode cX10_laced 175 = .ok (.iload 6, 2) := by decide +kernel
theorem dX10_laced_177 : decode cX10_laced 177 = .ok (.iadd, 1) := by decide +kernel
theorem dX10_laced_178 : decode cX10_laced 178 = .ok (.aload_n 0, 1) := by decide +kernel
theorem dX10_laced_179 : decode cX10_laced 179 = .ok (.getfield 210, 3) := by decide +kernel
theorem dX10_laced_182 : decode cX10_laced 182 = .ok (.if_icmp .le 5, 3) := by decide +kernel
theorem dX10_laced_185 : decode cX10_laced 185 = .ok (.iconst (-1), 1) := by decide +kernel
theorem dX10_laced_186 : decode cX10_laced 186 = .ok (.ireturn, 1) := by decide +kernel
theorem dX10_laced_187 : decode cX10_laced 187 = .ok (.aload_n 0, 1) := by decide +kernel
theorem dX10_laced_188 : decode cX10_laced 188 = .ok (.iload 4, 2) := by decide +kernel
theorem dX10_laced_190 : decode cX10_laced 190 = .ok (.iload 6, 2) := by decide +kernel
theorem dX10_laced_192 : decode cX10_laced 192 = .ok (.invokevirtual 200, 3) := by decide +kernel
theorem dX10_laced_195 : decode cX10_laced 195 = .ok (.lstore 7, 2) := by decide +kernel
theorem dX10_laced_197 : decode cX10_laced 197 = .ok (.lload 7, 2) := by decide +kernel
theorem dX10_laced_199 : decode cX10_laced 199 = .ok (.ldc2_w 65, 3) := by decide +kernel
theorem dX10_laced_202 : decode cX10_laced 202 = .ok (.lcmp, 1) := by decide +kernel
theorem dX10_laced_203 : decode cX10_laced 203 = .ok (.ifCond .ne 5, 3) := by decide +kernel
theorem dX10_laced_206 : decode cX10_laced 206 = .ok (.iconst (-1), 1) := by decide +kernel
theorem dX10_laced_207 : decode cX10_laced 207 = .ok (.ireturn, 1) := by decide +kernel
theorem dX10_laced_208 : decode cX10_laced 208 = .ok (.iload 5, 2) := by decide +kernel
theorem dX10_laced_210 : decode cX10_laced 210 = .ok (.ifCond .le 30, 3) := by decide +kernel
theorem dX10_laced_213 : decode cX10_laced 213 = .ok (.aload_n 0, 1) := by decide +kernel
theorem dX10_laced_214 : decode cX10_laced 214 = .ok (.getfield 43, 3) := by decide +kernel
theorem dX10_laced_217 : decode cX10_laced 217 = .ok (.iload 5, 2) := by decide +kernel
theorem dX10_laced_219 : decode cX10_laced 219 = .ok (.iconst 1, 1) := by decide +kernel
theorem dX10_laced_220 : decode cX10_laced 220 = .ok (.isub, 1) := by decide +kernel
theorem dX10_laced_221 : decode cX10_laced 221 = .ok (.iaload, 1) := by decide +kernel
theorem dX10_laced_222 : decode cX10_laced 222 = .ok (.i2l, 1) := by decide +kernel
theorem dX10_laced_223 : decode cX10_laced 223 = .ok (.lload 7, 2) := by decide +kernel
theorem dX10_laced_225 : decode cX10_laced 225 = .ok (.ladd, 1) := by decide +kernel
theorem dX10_laced_226 : decode cX10_laced 226 = .ok (.lconst 1, 1) := by decide +kernel
theorem dX10_laced_227 : decode cX10_laced 227 = .ok (.bipush 7, 2) := by decide +kernel
theorem dX10_laced_229 : decode cX10_laced 229 = .ok (.iload 6, 2) := by decide +kernel
theorem dX10_laced_231 : decode cX10_laced 231 = .ok (.imul, 1) := by decide +kernel
theorem dX10_laced_232 : decode cX10_laced 232 = .ok (.iconst 1, 1) := by decide +kernel
theorem dX10_laced_233 : decode cX10_laced 233 = .ok (.isub, 1) := by decide +kernel
theorem dX10_laced_234 : decode cX10_laced 234 = .ok (.lshl, 1) := by decide +kernel
theorem dX10_laced_235 : decode cX10_laced 235 = .ok (.lsub, 1) := by decide +kernel
theorem dX10_laced_236 : decode cX10_laced 236 = .ok (.lconst 1, 1) := by decide +kernel
theorem dX10_laced_237 : decode cX10_laced 237 = .ok (.ladd, 1) := by decide +kernel
theorem dX10_laced_238 : decode cX10_laced 238 = .ok (.lstore 7, 2) := by decide +kernel
theorem dX10_laced_240 : decode cX10_laced 240 = .ok (.lload 7, 2) := by decide +kernel
theorem dX10_laced_242 : decode cX10_laced 242 = .ok (.lconst 0, 1) := by decide +kernel
theorem dX10_laced_243 : decode cX10_laced 243 = .ok (.lcmp, 1) := by decide +kernel
theorem dX10_laced_244 : decode cX10_laced 244 = .ok (.ifCond .lt 12, 3) := by decide +kernel
theorem dX10_laced_247 : decode cX10_laced 247 = .ok (.lload 7, 2) := by decide +kernel
theorem dX10_laced_249 : decode cX10_laced 249 = .ok (.ldc2_w 298, 3) := by decide +kernel
theorem dX10_laced_252 : decode cX10_laced 252 = .ok (.lcmp, 1) := by decide +kernel
theorem dX10_laced_253 : decode cX10_laced 253 = .ok (.ifCond .le 5, 3) := by decide +kernel
theorem dX10_laced_256 : decode cX10_laced 256 = .ok (.iconst (-1), 1) := by decide +kernel
theorem dX10_laced_257 : decode cX10_laced 257 = .ok (.ireturn, 1) := by decide +kernel
theorem dX10_laced_258 : decode cX10_laced 258 = .ok (.aload_n 0, 1) := by decide +kernel
theorem dX10_laced_259 : decode cX10_laced 259 = .ok (.getfield 43, 3) := by decide +kernel
theorem dX10_laced_262 : decode cX10_laced 262 = .ok (.iload 5, 2) := by decide +kernel
theorem dX10_laced_264 : decode cX10_laced 264 = .ok (.lload 7, 2) := by decide +kernel
theorem dX10_laced_266 : decode cX10_laced 266 = .ok (.l2i, 1) := by decide +kernel
theorem dX10_laced_267 : decode cX10_laced 267 = .ok (.iastore, 1) := by decide +kernel
theorem dX10_laced_268 : decode cX10_laced 268 = .ok (.iload 4, 2) := by decide +kernel
theorem dX10_laced_270 : decode cX10_laced 270 = .ok (.iload 6, 2) := by decide +kernel
theorem dX10_laced_272 : decode cX10_laced 272 = .ok (.iadd, 1) := by decide +kernel
theorem dX10_laced_273 : decode cX10_laced 273 = .ok (.istore 4, 2) := by decide +kernel
theorem dX10_laced_275 : decode cX10_laced 275 = .ok (.iinc 5 1, 3) := by decide +kernel
theorem dX10_laced_278 : decode cX10_laced 278 = .ok (.goto (-219), 3) := by decide +kernel
theorem dX10_laced_281 : decode cX10_laced 281 = .ok (.iload 4, 2) := by decide +kernel
theorem dX10_laced_283 : decode cX10_laced 283 = .ok (.ireturn, 1) := by decide +kernel
set_option maxRecDepth 20000 in
theorem ggX10_readElements_X10_begin : GoodIn wsX10_readElements wsX10_begin := goodIn_r _ [10, 11, 12, 13, 14, 135, 136, 137, 138, 139, 140, 141, 142, 143, 144, 145, 146, 147, 148, 149, 150, 151, 152, 153, 154, 155, 156, 157, 158, 159, 160, 161, 162, 163, 164, 165, 166, 167, 168, 169, 170, 171, 172, 173, 174, 175, 176, 177, 178, 179, 180] (by decide +kernel) (by decide +kernel)
set_option maxRecDepth 20000 in
theorem gX10_readElements_X10_begin : GoodIn wsX10_readElements (wsV RX10 135 RX10 yX10_begin wsX10_begin) := goodIn_app (goodIn_of _ (by decide +kernel)) ggX10_readElements_X10_begin
set_option maxRecDepth 20000 in
theorem ggX10_readElements_X10_elements : GoodIn wsX10_readElements wsX10_elements := goodIn_r _ [18, 19, 20, 21, 22, 23, 2, 24, 25, 26, 27, 28, 9, 29, 30, 31, 32, 33, 34, 35, 36, 37, 38, 39, 40, 41, 42, 11, 12, 43, 44, 45, 46, 47, 48, 49, 50, 51, 52, 53, 54, 55, 56, 57, 58, 59, 60, 61, 62, 63, 64, 65, 66, 67, 68, 69, 70, 71, 72, 73, 74, 75, 76, 77, 78, 79, 80, 81, 82, 83, 84, 85, 86, 87, 88, 89, 90, 91, 92, 93, 94, 95, 96, 97, 98, 99, 100, 101, 102, 103, 104, 105, 106, 3, 107, 13, 14, 108, 109, 110, 111, 112, 113, 114, 115, 15, 16, 17, 116, 117, 118, 119, 135, 136, 137, 138, 139, 140, 141, 142, 143, 144, 145, 146, 147, 148, 149, 150, 151, 152, 153, 154, 155, 156, 157, 158, 159, 160, 161, 162, 163, 164, 165, 166, 167, 168, 169, 170, 171, 172, 173, 174, 175, 176, 177, 178, 179, 180] (by decide +kernel) (by decide +kernel)
set_option maxRecDepth 20000 in
theorem gX10_readElements_X10_elements : GoodIn wsX10_readElements (wsV RX10 246 RX10 yX10_elements wsX10_elements) := goodIn_app (goodIn_of _ (by decide +kernel)) ggX10_readElements_X10_elements
set_option maxRecDepth 20000 in
theorem ggX10_readElements_X10_ends : GoodIn wsX10_readElements wsX10_ends := goodIn_r _ [123, 11, 124, 12, 125, 126, 127, 128, 129, 9, 130, 13, 14, 131, 132, 108, 133, 109, 134, 110, 135, 136, 137, 138, 139, 140, 141, 142, 143, 144, 145, 146, 147, 148, 149, 150, 151, 152, 153, 154, 155, 156, 157, 158, 159, 160, 161, 162, 163, 164, 165, 166, 167, 168, 169, 170, 171, 172, 173, 174, 175, 176, 177, 178, 179, 180] (by decide +kernel) (by decide +kernel)
set_option maxRecDepth 20000 in
theorem gX10_readElements_X10_ends : GoodIn wsX10_readElements (wsV RX10 164 RX10 yX10_ends wsX10_ends) := goodIn_app (goodIn_of _ (by decide +kernel)) ggX10_readElements_X10_ends
theorem dX10_readElements_0 : decode cX10_readElements 0 = .ok (.iload_n 1, 1) := by decide +kernel
theorem dX10_readElements_1 : decode cX10_readElements 1 = .ok (.ifCond .lt 11, 3) := by decide +kernel
theorem dX10_readElements_4 : decode cX10_readElements 4 = .ok (.iload_n 1, 1) := by decide +kernel
theorem dX10_readElements_5 : decode cX10_readElements 5 = .ok (.aload_n 0, 1) := by decide +kernel
theorem dX10_readElements_6 : decode cX10_readElements 6 = .ok (.getfield 58, 3) := by decide +kernel
theorem dX10_readElements_9 : decode cX10_readElements 9 = .ok (.if_icmp .le 6, 3) := by decide +kernel
theorem dX10_readElements_12 : decode cX10_readElements 12 = .ok (.bipush (-2), 2) := by decide +kernel
theorem dX10_readElements_14 : decode cX10_readElements 14 = .ok (.ireturn, 1) := by decide +kernel
theorem dX10_readElements_15 : decode cX10_readElements 15 = .ok (.aload_n 0, 1) := by decide +kernel
theorem dX10_readElements_16 : decode cX10_readElements 16 = .ok (.invokevirtual 135, 3) := by decide +kernel
theorem dX10_readElements_19 : decode cX10_readElements 19 = .ok (.aload_n 0, 1) := by decide +kernel
theorem dX10_readElements_20 : decode cX10_readElements 20 = .ok (.iconst 0, 1) := by decide +kernel
theorem dX10_readElements_21 : decode cX10_readElements 21 = .ok (.putfield 243, 3) := by decide +kernel
theorem dX10_readElements_24 : decode cX10_readElements 24 = .ok (.aload_n 0, 1) := by decide +kernel
theorem dX10_readElements_25 : decode cX10_readElements 25 = .ok (.iconst 0, 1) := by decide +kernel
theorem dX10_readElements_26 : decode cX10_readElements 26 = .ok (.putfield 291, 3) := by decide +kernel
theorem dX10_readElements_29 : decode cX10_readElements 29 = .ok (.aload_n 0, 1) := by decide +kernel
theorem dX10_readElements_30 : decode cX10_readElements 30 = .ok (.iload_n 1, 1) := by decide +kernel
theorem dX10_readElements_31 : decode cX10_readElements 31 = .ok (.iconst 0, 1) := by decide +kernel
theorem dX10_readElements_32 : decode cX10_readElements 32 = .ok (.iload_n 1, 1) := by decide +kernel
theorem dX10_readElements_33 : decode cX10_readElements 33 = .ok (.iconst 0, 1) := by decide +kernel
theorem dX10_readElements_34 : decode cX10_readElements 34 = .ok (.iconst 0, 1) := by decide +kernel
theorem dX10_readElements_35 : decode cX10_readElements 35 = .ok (.invokevirtual 246, 3) := by decide +kernel
theorem dX10_readElements_38 : decode cX10_readElements 38 = .ok (.istore_n 2, 1) := by decide +kernel
theorem dX10_readElements_39 : decode cX10_readElements 39 = .ok (.aload_n 0, 1) := by decide +kernel
theorem dX10_readElements_40 : decode cX10_readElements 40 = .ok (.iconst 0, 1) := by decide +kernel
theorem dX10_readElements_41 : decode cX10_readElements 41 = .ok (.putfield 58, 3) := by decide +kernel
theorem dX10_readElements_44 : decode cX10_readElements 44 = .ok (.aload_n 0, 1) := by decide +kernel
theorem dX10_readElements_45 : decode cX10_readElements 45 = .ok (.iload_n 2, 1) := by decide +kernel
theorem dX10_readElements_46 : decode cX10_readElements 46 = .ok (.ifCond .eq 10, 3) := by decide +kernel
theorem dX10_readElements_49 : decode cX10_readElements 49 = .ok (.aload_n 0, 1) := by decide +kernel
theorem dX10_readElements_50 : decode cX10_readElements 50 = .ok (.getfield 243, 3) := by decide +kernel
theorem dX10_readElements_53 : decode cX10_readElements 53 = .ok (.goto 4, 3) := by decide +kernel
theorem dX10_readElements_56 : decode cX10_readElements 56 = .ok (.iconst 0, 1) := by decide +kernel
theorem dX10_readElements_57 : decode cX10_readElements 57 = .ok (.putfield 300, 3) := by decide +kernel
theorem dX10_readElements_60 : decode cX10_readElements 60 = .ok (.aload_n 0, 1) := by decide +kernel
theorem dX10_readElements_61 : decode cX10_readElements 61 = .ok (.iload_n 2, 1) := by decide +kernel
theorem dX10_readElements_62 : decode cX10_readElements 62 = .ok (.ifCond .eq 10, 3) := by decide +kernel
theorem dX10_readElements_65 : decode cX10_readElements 65 = .ok (.aload_n 0, 1) := by decide +kernel
theorem dX10_readElements_66 : decode cX10_readElements 66 = .ok (.getfield 291, 3) := by decide +kernel
theorem dX10_readElements_69 : decode cX10_readElements 69 = .ok (.goto 4, 3) := by decide +kernel
theorem dX10_readElements_72 : decode cX10_readElements 72 = .ok (.iconst 0, 1) := by decide +kernel
theorem dX10_readElements_73 : decode cX10_readElements 73 = .ok (.putfield 303, 3) := by decide +kernel
theorem dX10_readElements_76 : decode cX10_readElements 76 = .ok (.aload_n 0, 1) := by decide +kernel
theorem dX10_readElements_77 : decode cX10_readElements 77 = .ok (.iload_n 1, 1) := by decide +kernel
theorem dX10_readElements_78 : decode cX10_readElements 78 = .ok (.invokevirtual 164, 3) := by decide +kernel
theorem dX10_readElements_81 : decode cX10_readElements 81 = .ok (.ireturn, 1) := by decide +kernel
theorem dX10_wrong_0 : decode cX10_wrong 0 = .ok (.iload_n 1, 1) := by decide +kernel
theorem dX10_wrong_1 : decode cX10_wrong 1 = .ok (.ifCond .ne 10, 3) := by decide +kernel
theorem dX10_wrong_4 : decode cX10_wrong 4 = .ok (.aload_n 0, 1) := by decide +kernel
theorem dX10_wrong_5 : decode cX10_wrong 5 = .ok (.getfield 129, 3) := by decide +kernel
theorem dX10_wrong_8 : decode cX10_wrong 8 = .ok (.goto 16, 3) := by decide +kernel
theorem dX10_wrong_11 : decode cX10_wrong 11 = .ok (.iload_n 1, 1) := by decide +kernel
theorem dX10_wrong_12 : decode cX10_wrong 12 = .ok (.iconst 1, 1) := by decide +kernel
theorem dX10_wrong_13 : decode cX10_wrong 13 = .ok (.if_icmp .ne 10, 3) := by decide +kernel
theorem dX10_wrong_16 : decode cX10_wrong 16 = .ok (.aload_n 0, 1) := by decide +kernel
theorem dX10_wrong_17 : decode cX10_wrong 17 = .ok (.getfield 39, 3) := by decide +kernel
theorem dX10_wrong_20 : decode cX10_wrong 20 = .ok (.goto 4, 3) := by decide +kernel
theorem dX10_wrong_23 : decode cX10_wrong 23 = .ok (.iconst (-1), 1) := by decide +kernel
theorem dX10_wrong_24 : decode cX10_wrong 24 = .ok (.ireturn, 1) := by decide +kernel
theorem dX10_sizeLength_0 : decode cX10_sizeLength 0 = .ok (.iconst 1, 1) := by decide +kernel
theorem dX10_sizeLength_1 : decode cX10_sizeLength 1 = .ok (.istore_n 2, 1) := by decide +kernel
theorem dX10_sizeLength_2 : decode cX10_sizeLength 2 = .ok (.lload_n 0, 1) := by decide +kernel
theorem dX10_sizeLength_3 : decode cX10_sizeLength 3 = .ok (.lconst 1, 1) := by decide +kernel
theorem dX10_sizeLength_4 : decode cX10_sizeLength 4 = .ok (.bipush 7, 2) := by decide +kernel
theorem dX10_sizeLength_6 : decode cX10_sizeLength 6 = .ok (.iload_n 2, 1) := by decide +kernel
theorem dX10_sizeLength_7 : decode cX10_sizeLength 7 = .ok (.imul, 1) := by decide +kernel
theorem dX10_sizeLength_8 : decode cX10_sizeLength 8 = .ok (.lshl, 1) := by decide +kernel
theorem dX10_sizeLength_9 : decode cX10_sizeLength 9 = .ok (.lconst 1, 1) := by decide +kernel
theorem dX10_sizeLength_10 : decode cX10_sizeLength 10 = .ok (.lsub, 1) := by decide +kernel
theorem dX10_sizeLength_11 : decode cX10_sizeLength 11 = .ok (.lcmp, 1) := by decide +kernel
theorem dX10_sizeLength_12 : decode cX10_sizeLength 12 = .ok (.ifCond .lt 9, 3) := by decide +kernel
theorem dX10_sizeLength_15 : decode cX10_sizeLength 15 = .ok (.iinc 2 1, 3) := by decide +kernel
theorem dX10_sizeLength_18 : decode cX10_sizeLength 18 = .ok (.goto (-16), 3) := by decide +kernel
theorem dX10_sizeLength_21 : decode cX10_sizeLength 21 = .ok (.iload_n 2, 1) := by decide +kernel
theorem dX10_sizeLength_22 : decode cX10_sizeLength 22 = .ok (.ireturn, 1) := by decide +kernel
set_option maxRecDepth 20000 in
theorem ggX10_putSize_X10_sizeLength : GoodIn wsX10_putSize wsX10_sizeLength := goodIn_r _ [4] (by decide +kernel) (by decide +kernel)
set_option maxRecDepth 20000 in
theorem gX10_putSize_X10_sizeLength : GoodIn wsX10_putSize (va_wsS RX10 306 yX10_sizeLength wsX10_sizeLength) := goodIn_app (goodIn_of _ (by decide +kernel)) ggX10_putSize_X10_sizeLength
set_option maxRecDepth 20000 in
theorem ggX10_putSize_X10_putHigh : GoodIn wsX10_putSize wsX10_putHigh := goodIn_r _ [8, 9, 10, 11, 3, 12, 13, 14, 15, 16, 17, 18, 19, 20, 21, 22, 23, 24, 25, 26, 27, 28, 29, 30, 31, 32, 33, 34, 35, 36, 37, 38, 39, 40, 41, 42, 43, 44, 45, 46, 47, 48, 49, 50, 51, 52, 53, 54, 55, 56, 57, 58, 59, 60, 61] (by decide +kernel) (by decide +kernel)
set_option maxRecDepth 20000 in
theorem gX10_putSize_X10_putHigh : GoodIn wsX10_putSize (wsV RX10 310 RX10 yX10_putHigh wsX10_putHigh) := goodIn_app (goodIn_of _ (by decide +kernel)) ggX10_putSize_X10_putHigh
theorem dX10_putSize_0 : decode cX10_putSize 0 = .ok (.lload_n 1, 1) := by decide +kernel
theorem dX10_putSize_1 : decode cX10_putSize 1 = .ok (.invokestatic 306, 3) := by decide +kernel
theorem dX10_putSize_4 : decode cX10_putSize 4 = .ok (.istore_n 3, 1) := by decide +kernel
theorem dX10_putSize_5 : decode cX10_putSize 5 = .ok (.aload_n 0, 1) := by decide +kernel
theorem dX10_putSize_6 : decode cX10_putSize 6 = .ok (.lload_n 1, 1) := by decide +kernel
theorem dX10_putSize_7 : decode cX10_putSize 7 = .ok (.lconst 1, 1) := by decide +kernel
theorem dX10_putSize_8 : decode cX10_putSize 8 = .ok (.bipush 7, 2) := by decide +kernel
theorem dX10_putSize_10 : decode cX10_putSize 10 = .ok (.iload_n 3, 1) := by decide +kernel
theorem dX10_putSize_11 : decode cX10_putSize 11 = .ok (.imul, 1) := by decide +kernel
theorem dX10_putSize_12 : decode cX10_putSize 12 = .ok (.lshl, 1) := by decide +kernel
theorem dX10_putSize_13 : decode cX10_putSize 13 = .ok (.lor, 1) := by decide +kernel
theorem dX10_putSize_14 : decode cX10_putSize 14 = .ok (.iload_n 3, 1) := by decide +kernel
theorem dX10_putSize_15 : decode cX10_putSize 15 = .ok (.invokevirtual 310, 3) := by decide +kernel
theorem dX10_putSize_18 : decode cX10_putSize 18 = .ok (.return_, 1) := by decide +kernel
set_option maxRecDepth 20000 in
theorem ggX10_later_X10_put : GoodIn wsX10_later wsX10_put := goodIn_r _ [6, 1, 7, 8, 13, 14, 15, 16, 17, 18, 19, 20, 21, 22, 23, 24, 25, 26, 27, 28, 29, 30, 31, 32, 33, 34, 35, 36, 37, 38, 39, 40, 41, 42, 43, 44, 45, 46, 47, 48, 49, 50, 51, 52, 53, 54, 55, 56, 57, 58] (by decide +kernel) (by decide +kernel)
set_option maxRecDepth 20000 in
theorem gX10_later_X10_put : GoodIn wsX10_later (wsV RX10 88 RX10 yX10_put wsX10_put) := goodIn_app (goodIn_of _ (by decide +kernel)) ggX10_later_X10_put
set_option maxRecDepth 20000 in
theorem ggX10_later_X10_putHigh : GoodIn wsX10_later wsX10_putHigh := goodIn_r _ [12, 2, 3, 4, 5, 6, 1, 7, 8, 13, 14, 15, 16, 17, 18, 19, 20, 21, 22, 23, 24, 25, 26, 27, 28, 29, 30, 31, 32, 33, 34, 35, 36, 37, 38, 39, 40, 41, 42, 43, 44, 45, 46, 47, 48, 49, 50, 51, 52, 53, 54, 55, 56, 57, 58] (by decide +kernel) (by decide +kernel)
set_option maxRecDepth 20000 in
theorem gX10_later_X10_putHigh : GoodIn wsX10_later (wsV RX10 310 RX10 yX10_putHigh wsX10_putHigh) := goodIn_app (goodIn_of _ (by decide +kernel)) ggX10_later_X10_putHigh
theorem dX10_later_0 : decode cX10_later 0 = .ok (.iload_n 1, 1) := by decide +kernel
theorem dX10_later_1 : decode cX10_later 1 = .ok (.ifCond .eq 13, 3) := by decide +kernel
theorem dX10_later_4 : decode cX10_later 4 = .ok (.aload_n 0, 1) := by decide +kernel
theorem dX10_later_5 : decode cX10_later 5 = .ok (.sipush 255, 3) := by decide +kernel
theorem dX10_later_8 : decode cX10_later 8 = .ok (.invokevirtual 88, 3) := by decide +kernel
theorem dX10_later_11 : decode cX10_later 11 = .ok (.goto 9, 3) := by decide +kernel
theorem dX10_later_14 : decode cX10_later 14 = .ok (.aload_n 0, 1) := by decide +kernel
theorem dX10_later_15 : decode cX10_later 15 = .ok (.lconst 0, 1) := by decide +kernel
theorem dX10_later_16 : decode cX10_later 16 = .ok (.iconst 4, 1) := by decide +kernel
theorem dX10_later_17 : decode cX10_later 17 = .ok (.invokevirtual 310, 3) := by decide +kernel
theorem dX10_later_20 : decode cX10_later 20 = .ok (.aload_n 0, 1) := by decide +kernel
theorem dX10_later_21 : decode cX10_later 21 = .ok (.getfield 81, 3) := by decide +kernel
theorem dX10_later_24 : decode cX10_later 24 = .ok (.ireturn, 1) := by decide +kernel
theorem dX10_tell_0 : decode cX10_tell 0 = .ok (.iload_n 2, 1) := by decide +kernel
theorem dX10_tell_1 : decode cX10_tell 1 = .ok (.ifCond .ne 10, 3) := by decide +kernel
theorem dX10_tell_4 : decode cX10_tell 4 = .ok (.aload_n 0, 1) := by decide +kernel
theorem dX10_tell_5 : decode cX10_tell 5 = .ok (.getfield 84, 3) := by decide +kernel
theorem dX10_tell_8 : decode cX10_tell 8 = .ok (.ifCond .eq 4, 3) := by decide +kernel
theorem dX10_tell_11 : decode cX10_tell 11 = .ok (.return_, 1) := by decide +kernel
theorem dX10_tell_12 : decode cX10_tell 12 = .ok (.aload_n 0, 1) := by decide +kernel
theorem dX10_tell_13 : decode cX10_tell 13 = .ok (.getfield 81, 3) := by decide +kernel
theorem dX10_tell_16 : decode cX10_tell 16 = .ok (.iload_n 1, 1) := by decide +kernel
theorem dX10_tell_17 : decode cX10_tell 17 = .ok (.isub, 1) := by decide +kernel
theorem dX10_tell_18 : decode cX10_tell 18 = .ok (.ldc_w 313, 3) := by decide +kernel
theorem dX10_tell_21 : decode cX10_tell 21 = .ok (.ior, 1) := by decide +kernel
theorem dX10_tell_22 : decode cX10_tell 22 = .ok (.istore_n 3, 1) := by decide +kernel
theorem dX10_tell_23 : decode cX10_tell 23 = .ok (.iconst 0, 1) := by decide +kernel
theorem dX10_tell_24 : decode cX10_tell 24 = .ok (.istore 4, 2) := by decide +kernel
theorem dX10_tell_26 : decode cX10_tell 26 = .ok (.iload 4, 2) := by decide +kernel
theorem dX10_tell_28 : decode cX10_tell 28 = .ok (.iconst 4, 1) := by decide +kernel
theorem dX10_tell_29 : decode cX10_tell 29 = .ok (.if_icmp .ge 31, 3) := by decide +kernel
theorem dX10_tell_32 : decode cX10_tell 32 = .ok (.aload_n 0, 1) := by decide +kernel
theorem dX10_tell_33 : decode cX10_tell 33 = .ok (.getfield 16, 3) := by decide +kernel
theorem dX10_tell_36 : decode cX10_tell 36 = .ok (.iload_n 1, 1) := by decide +kernel
theorem dX10_tell_37 : decode cX10_tell 37 = .ok (.iconst 4, 1) := by decide +kernel
theorem dX10_tell_38 : decode cX10_tell 38 = .ok (.isub, 1) := by decide +kernel
theorem dX10_tell_39 : decode cX10_tell 39 = .ok (.iload 4, 2) := by decide +kernel
theorem dX10_tell_41 : decode cX10_tell 41 = .ok (.iadd, 1) := by decide +kernel
theorem dX10_tell_42 : decode cX10_tell 42 = .ok (.iload_n 3, 1) := by decide +kernel
theorem dX10_tell_43 : decode cX10_tell 43 = .ok (.bipush 24, 2) := by decide +kernel
theorem dX10_tell_45 : decode cX10_tell 45 = .ok (.bipush 8, 2) := by decide +kernel
theorem dX10_tell_47 : decode cX10_tell 47 = .ok (.iload 4, 2) := by decide +kernel
theorem dX10_tell_49 : decode cX10_tell 49 = .ok (.imul, 1) := by decide +kernel
theorem dX10_tell_50 : decode cX10_tell 50 = .ok (.isub, 1) := by decide +kernel
theorem dX10_tell_51 : decode cX10_tell 51 = .ok (.ishr, 1) := by decide +kernel
theorem dX10_tell_52 : decode cX10_tell 52 = .ok (.i2b, 1) := by decide +kernel
theorem dX10_tell_53 : decode cX10_tell 53 = .ok (.bastore, 1) := by decide +kernel
theorem dX10_tell_54 : decode cX10_tell 54 = .ok (.iinc 4 1, 3) := by decide +kernel
theorem dX10_tell_57 : decode cX10_tell 57 = .ok (.goto (-31), 3) := by decide +kernel
theorem dX10_tell_60 : decode cX10_tell 60 = .ok (.return_, 1) := by decide +kernel
set_option maxRecDepth 20000 in
theorem ggX10_elements__X10_putRow : GoodIn wsX10_elements_ wsX10_putRow := goodIn_r _ [15, 16, 17, 18, 14, 19, 1, 2, 20, 62, 63, 64, 65, 66, 67, 68, 69, 70, 71, 72, 73, 74, 75, 76, 77, 78, 79, 80, 81, 82, 83, 84, 85, 86, 87, 88, 89, 90, 91, 92, 93, 94, 95, 96, 97, 98, 99, 100, 101, 102, 103, 104, 105, 106, 107] (by decide +kernel) (by decide +kernel)
set_option maxRecDepth 20000 in
theorem gX10_elements__X10_putRow : GoodIn wsX10_elements_ (wsV RX10 314 RX10 yX10_putRow wsX10_putRow) := goodIn_app (goodIn_of _ (by decide +kernel)) ggX10_elements__X10_putRow
set_option maxRecDepth 20000 in
theorem ggX10_elements__X10_putHigh : GoodIn wsX10_elements_ wsX10_putHigh := goodIn_r _ [24, 16, 17, 18, 14, 19, 1, 2, 20, 62, 63, 64, 65, 66, 67, 68, 69, 70, 71, 72, 73, 74, 75, 76, 77, 78, 79, 80, 81, 82, 83, 84, 85, 86, 87, 88, 89, 90, 91, 92, 93, 94, 95, 96, 97, 98, 99, 100, 101, 102, 103, 104, 105, 106, 107] (by decide +kernel) (by decide +kernel)
set_option maxRecDepth 20000 in
theorem gX10_elements__X10_putHigh : GoodIn wsX10_elements_ (wsV RX10 310 RX10 yX10_putHigh wsX10_putHigh) := goodIn_app (goodIn_of _ (by decide +kernel)) ggX10_elements__X10_putHigh
set_option maxRecDepth 20000 in
theorem ggX10_elements__X10_later : GoodIn wsX10_elements_ wsX10_later := goodIn_r _ [28, 1, 16, 17, 18, 14, 19, 2, 20, 21, 22, 23, 24, 62, 63, 64, 65, 66, 67, 68, 69, 70, 71, 72, 73, 74, 75, 76, 77, 78, 79, 80, 81, 82, 83, 84, 85, 86, 87, 88, 89, 90, 91, 92, 93, 94, 95, 96, 97, 98, 99, 100, 101, 102, 103, 104, 105, 106, 107] (by decide +kernel) (by decide +kernel)
set_option maxRecDepth 20000 in
theorem gX10_elements__X10_later : GoodIn wsX10_elements_ (wsV RX10 320 RX10 yX10_later wsX10_later) := goodIn_app (goodIn_of _ (by decide +kernel)) ggX10_elements__X10_later
set_option maxRecDepth 20000 in
theorem ggX10_elements__X10_put : GoodIn wsX10_elements_ wsX10_put := goodIn_r _ [19, 1, 2, 20, 62, 63, 64, 65, 66, 67, 68, 69, 70, 71, 72, 73, 74, 75, 76, 77, 78, 79, 80, 81, 82, 83, 84, 85, 86, 87, 88, 89, 90, 91, 92, 93, 94, 95, 96, 97, 98, 99, 100, 101, 102, 103, 104, 105, 106, 107] (by decide +kernel) (by decide +kernel)
set_option maxRecDepth 20000 in
theorem gX10_elements__X10_put : GoodIn wsX10_elements_ (wsV RX10 88 RX10 yX10_put wsX10_put) := goodIn_app (goodIn_of _ (by decide +kernel)) ggX10_elements__X10_put
set_option maxRecDepth 20000 in
theorem ggX10_elements__X10_timeOf : GoodIn wsX10_elements_ wsX10_timeOf := goodIn_r _ [32, 33, 34, 62, 63, 64, 65, 66, 67, 68, 69, 70, 71, 72, 73, 74, 75, 76, 77, 78, 79, 80, 81, 82, 83, 84, 85, 86, 87, 88, 89, 90, 91, 92, 93, 94, 95, 96, 97, 98, 99, 100, 101, 102, 103, 104, 105, 106, 107] (by decide +kernel) (by decide +kernel)
set_option maxRecDepth 20000 in
theorem gX10_elements__X10_timeOf : GoodIn wsX10_elements_ (wsV RX10 99 RX10 yX10_timeOf wsX10_timeOf) := goodIn_app (goodIn_of _ (by decide +kernel)) ggX10_elements__X10_timeOf
set_option maxRecDepth 20000 in
theorem ggX10_elements__X10_tell : GoodIn wsX10_elements_ wsX10_tell := goodIn_r _ [38, 2, 1, 39, 20, 62, 63, 64, 65, 66, 67, 68, 69, 70, 71, 72, 73, 74, 75, 76, 77, 78, 79, 80, 81, 82, 83, 84, 85, 86, 87, 88, 89, 90, 91, 92, 93, 94, 95, 96, 97, 98, 99, 100, 101, 102, 103, 104, 105, 106, 107] (by decide +kernel) (by decide +kernel)
set_option maxRecDepth 20000 in
theorem gX10_elements__X10_tell : GoodIn wsX10_elements_ (wsV RX10 324 RX10 yX10_tell wsX10_tell) := goodIn_app (goodIn_of _ (by decide +kernel)) ggX10_elements__X10_tell
set_option maxRecDepth 20000 in
theorem ggX10_elements__X10_putBlock : GoodIn wsX10_elements_ wsX10_putBlock := goodIn_r _ [43, 44, 10, 45, 46, 47, 14, 48, 49, 50, 51, 16, 17, 18, 19, 1, 2, 20, 52, 53, 54, 55, 21, 22, 23, 24, 62, 63, 64, 65, 66, 67, 68, 69, 70, 71, 72, 73, 74, 75, 76, 77, 78, 79, 80, 81, 82, 83, 84, 85, 86, 87, 88, 89, 90, 91, 92, 93, 94, 95, 96, 97, 98, 99, 100, 101, 102, 103, 104, 105, 106, 107] (by decide +kernel) (by decide +kernel)
set_option maxRecDepth 20000 in
theorem gX10_elements__X10_putBlock : GoodIn wsX10_elements_ (wsV RX10 330 RX10 yX10_putBlock wsX10_putBlock) := goodIn_app (goodIn_of _ (by decide +kernel)) ggX10_elements__X10_putBlock
set_option maxRecDepth 20000 in
theorem ggX10_elements__X10_drawn : GoodIn wsX10_elements_ wsX10_drawn := goodIn_r _ [59, 2, 1, 60, 20, 61, 62, 63, 64, 65, 66, 67, 68, 69, 70, 71, 72, 73, 74, 75, 76, 77, 78, 79, 80, 81, 82, 83, 84, 85, 86, 87, 88, 89, 90, 91, 92, 93, 94, 95, 96, 97, 98, 99, 100, 101, 102, 103, 104, 105, 106, 107] (by decide +kernel) (by decide +kernel)
set_option maxRecDepth 20000 in
theorem gX10_elements__X10_drawn : GoodIn wsX10_elements_ (wsV RX10 115 RX10 yX10_drawn wsX10_drawn) := goodIn_app (goodIn_of _ (by decide +kernel)) ggX10_elements__X10_drawn
theorem dX10_elements__0 : decode cX10_elements_ 0 = .ok (.iload_n 1, 1) := by decide +kernel
theorem dX10_elements__1 : decode cX10_elements_ 1 = .ok (.ifCond .lt 30, 3) := by decide +kernel
theorem dX10_elements__4 : decode cX10_elements_ 4 = .ok (.iload_n 1, 1) := by decide +kernel
theorem dX10_elements__5 : decode cX10_elements_ 5 = .ok (.iconst 3, 1) := by decide +kernel
theorem dX10_elements__6 : decode cX10_elements_ 6 = .ok (.if_icmp .gt 25, 3) := by decide +kernel
theorem dX10_elements__9 : decode cX10_elements_ 9 = .ok (.iload_n 2, 1) := by decide +kernel
theorem dX10_elements__10 : decode cX10_elements_ 10 = .ok (.iconst 1, 1) := by decide +kernel
theorem dX10_elements__11 : decode cX10_elements_ 11 = .ok (.if_icmp .lt 20, 3) := by decide +kernel
theorem dX10_elements__14 : decode cX10_elements_ 14 = .ok (.iload_n 2, 1) := by decide +kernel
theorem dX10_elements__15 : decode cX10_elements_ 15 = .ok (.bipush 8, 2) := by decide +kernel
theorem dX10_elements__17 : decode cX10_elements_ 17 = .ok (.if_icmp .gt 14, 3) := by decide +kernel
theorem dX10_elements__20 : decode cX10_elements_ 20 = .ok (.iload_n 3, 1) := by decide +kernel
theorem dX10_elements__21 : decode cX10_elements_ 21 = .ok (.iconst 1, 1) := by decide +kernel
theorem dX10_elements__22 : decode cX10_elements_ 22 = .ok (.if_icmp .lt 9, 3) := by decide +kernel
theorem dX10_elements__25 : decode cX10_elements_ 25 = .ok (.iload_n 3, 1) := by decide +kernel
theorem dX10_elements__26 : decode cX10_elements_ 26 = .ok (.bipush 20, 2) := by decide +kernel
theorem dX10_elements__28 : decode cX10_elements_ 28 = .ok (.if_icmp .le 6, 3) := by decide +kernel
theorem dX10_elements__31 : decode cX10_elements_ 31 = .ok (.bipush (-2), 2) := by decide +kernel
theorem dX10_elements__33 : decode cX10_elements_ 33 = .ok (.ireturn, 1) := by decide +kernel
theorem dX10_elements__34 : decode cX10_elements_ 34 = .ok (.aload_n 0, 1) := by decide +kernel
theorem dX10_elements__35 : decode cX10_elements_ 35 = .ok (.iconst 0, 1) := by decide +kernel
theorem dX10_elements__36 : decode cX10_elements_ 36 = .ok (.putfield 81, 3) := by decide +kernel
theorem dX10_elements__39 : decode cX10_elements_ 39 = .ok (.aload_n 0, 1) := by decide +kernel
theorem dX10_elements__40 : decode cX10_elements_ 40 = .ok (.iconst 0, 1) := by decide +kernel
theorem dX10_elements__41 : decode cX10_elements_ 41 = .ok (.putfield 84, 3) := by decide +kernel
theorem dX10_elements__44 : decode cX10_elements_ 44 = .ok (.aload_n 0, 1) := by decide +kernel
theorem dX10_elements__45 : decode cX10_elements_ 45 = .ok (.aload_n 0, 1) := by decide +kernel
theorem dX10_elements__46 : decode cX10_elements_ 46 = .ok (.getfield 46, 3) := by decide +kernel
theorem dX10_elements__49 : decode cX10_elements_ 49 = .ok (.invokevirtual 314, 3) := by decide +kernel
theorem dX10_elements__52 : decode cX10_elements_ 52 = .ok (.aload_n 0, 1) := by decide +kernel
theorem dX10_elements__53 : decode cX10_elements_ 53 = .ok (.ldc2_w 318, 3) := by decide +kernel
theorem dX10_elements__56 : decode cX10_elements_ 56 = .ok (.iconst 4, 1) := by decide +kernel
theorem dX10_elements__57 : decode cX10_elements_ 57 = .ok (.invokevirtual 310, 3) := by decide +kernel
theorem dX10_elements__60 : decode cX10_elements_ 60 = .ok (.aload_n 0, 1) := by decide +kernel
theorem dX10_elements__61 : decode cX10_elements_ 61 = .ok (.iload 4, 2) := by decide +kernel
theorem dX10_elements__63 : decode cX10_elements_ 63 = .ok (.invokevirtual 320, 3) := by decide +kernel
theorem dX10_elements__66 : decode cX10_elements_ 66 = .ok (.istore 5, 2) := by decide +kernel
theorem dX10_elements__68 : decode cX10_elements_ 68 = .ok (.aload_n 0, 1) := by decide +kernel
theorem dX10_elements__69 : decode cX10_elements_ 69 = .ok (.aload_n 0, 1) := by decide +kernel
theorem dX10_elements__70 : decode cX10_elements_ 70 = .ok (.getfield 49, 3) := by decide +kernel
theorem dX10_elements__73 : decode cX10_elements_ 73 = .ok (.invokevirtual 314, 3) := by decide +kernel
theorem dX10_elements__76 : decode cX10_elements_ 76 = .ok (.aload_n 0, 1) := by decide +kernel
theorem dX10_elements__77 : decode cX10_elements_ 77 = .ok (.aload_n 0, 1) := by decide +kernel
theorem dX10_elements__78 : decode cX10_elements_ 78 = .ok (.getfield 52, 3) := by decide +kernel
theorem dX10_elements__81 : decode cX10_elements_ 81 = .ok (.invokevirtual 314, 3) := by decide +kernel
theorem dX10_elements__84 : decode cX10_elements_ 84 = .ok (.aload_n 0, 1) := by decide +kernel
theorem dX10_elements__85 : decode cX10_elements_ 85 = .ok (.iload_n 1, 1) := by decide +kernel
theorem dX10_elements__86 : decode cX10_elements_ 86 = .ok (.ifCond .le 7, 3) := by decide +kernel
theorem dX10_elements__89 : decode cX10_elements_ 89 = .ok (.iconst 1, 1) := by decide +kernel
theorem dX10_elements__90 : decode cX10_elements_ 90 = .ok (.goto 4, 3) := by decide +kernel
theorem dX10_elements__93 : decode cX10_elements_ 93 = .ok (.iconst 0, 1) := by decide +kernel
theorem dX10_elements__94 : decode cX10_elements_ 94 = .ok (.invokevirtual 88, 3) := by decide +kernel
theorem dX10_elements__97 : decode cX10_elements_ 97 = .ok (.aload_n 0, 1) := by decide +kernel
theorem dX10_elements__98 : decode cX10_elements_ 98 = .ok (.aload_n 0, 1) := by decide +kernel
theorem dX10_elements__99 : decode cX10_elements_ 99 = .ok (.getfield 55, 3) := by decide +kernel
theorem dX10_elements__102 : decode cX10_elements_ 102 = .ok (.invokevirtual 314, 3) := by decide +kernel
theorem dX10_elements__105 : decode cX10_elements_ 105 = .ok (.iconst 0, 1) := by decide +kernel
theorem dX10_elements__106 : decode cX10_elements_ 106 = .ok (.istore 6, 2) := by decide +kernel
theorem dX10_elements__108 : decode cX10_elements_ 108 = .ok (.iconst 0, 1) := by decide +kernel
theorem dX10_elements__109 : decode cX10_elements_ 109 = .ok (.istore 7, 2) := by decide +kernel
theorem dX10_elements__111 : decode cX10_elements_ 111 = .ok (.iconst (-1), 1) := by decide +kernel
theorem dX10_elements__112 : decode cX10_elements_ 112 = .ok (.istore 8, 2) := by decide +kernel
theorem dX10_elements__114 : decode cX10_elements_ 114 = .ok (.iconst 0, 1) := by decide +kernel
theorem dX10_elements__115 : decode cX10_elements_ 115 = .ok (.istore 9, 2) := by decide +kernel
theorem dX10_elements__117 : decode cX10_elements_ 117 = .ok (.lconst 0, 1) := by decide +kernel
theorem dX10_elements__118 : decode cX10_elements_ 118 = .ok (.lstore 10, 2) := by decide +kernel
theorem dX10_elements__120 : decode cX10_elements_ 120 = .ok (.iload 6, 2) := by decide +kernel
theorem dX10_elements__122 : decode cX10_elements_ 122 = .ok (.aload_n 0, 1) := by decide +kernel
theorem dX10_elements__123 : decode cX10_elements_ 123 = .ok (.getfield 69, 3) := by decide +kernel
theorem dX10_elements__126 : decode cX10_elements_ 126 = .ok (.if_icmp .ge 266, 3) := by decide +kernel
theorem dX10_elements__129 : decode cX10_elements_ 129 = .ok (.aload_n 0, 1) := by decide +kernel
theorem dX10_elements__130 : decode cX10_elements_ 130 = .ok (.getfield 84, 3) := by decide +kernel
theorem dX10_elements__133 : decode cX10_elements_ 133 = .ok (.ifCond .ne 259, 3) := by decide +kernel
theorem dX10_elements__136 : decode cX10_elements_ 136 = .ok (.aload_n 0, 1) := by decide +kernel
theorem dX10_elements__137 : decode cX10_elements_ 137 = .ok (.iload 6, 2) := by decide +kernel
theorem dX10_elements__139 : decode cX10_elements_ 139 = .ok (.invokevirtual 99, 3) := by decide +kernel
theorem dX10_elements__142 : decode cX10_elements_ 142 = .ok (.lstore 12, 2) := by decide +kernel
theorem dX10_elements__144 : decode cX10_elements_ 144 = .ok (.lload 12, 2) := by decide +kernel
theorem dX10_elements__146 : decode cX10_elements_ 146 = .ok (.lload 10, 2) := by decide +kernel
theorem dX10_elements__148 : decode cX10_elements_ 148 = .ok (.lsub, 1) := by decide +kernel
theorem dX10_elements__149 : decode cX10_elements_ 149 = .ok (.lstore 14, 2) := by decide +kernel
theorem dX10_elements__151 : decode cX10_elements_ 151 = .ok (.iload 8, 2) := by decide +kernel
theorem dX10_elements__153 : decode cX10_elements_ 153 = .ok (.iconst (-1), 1) := by decide +kernel
theorem dX10_elements__154 : decode cX10_elements_ 154 = .ok (.if_icmp .eq 20, 3) := by decide +kernel
theorem dX10_elements__157 : decode cX10_elements_ 157 = .ok (.iload 9, 2) := by decide +kernel
theorem dX10_elements__159 : decode cX10_elements_ 159 = .ok (.iload_n 3, 1) := by decide +kernel
theorem dX10_elements__160 : decode cX10_elements_ 160 = .ok (.if_icmp .eq 14, 3) := by decide +kernel
theorem dX10_elements__163 : decode cX10_elements_ 163 = .ok (.lload 14, 2) := by decide +kernel
theorem dX10_elements__165 : decode cX10_elements_ 165 = .ok (.lload 14, 2) := by decide +kernel
theorem dX10_elements__167 : decode cX10_elements_ 167 = .ok (.l2i, 1) := by decide +kernel
theorem dX10_elements__168 : decode cX10_elements_ 168 = .ok (.i2s, 1) := by decide +kernel
theorem dX10_elements__169 : decode cX10_elements_ 169 = .ok (.i2l, 1) := by decide +kernel
theorem dX10_elements__170 : decode cX10_elements_ 170 = .ok (.lcmp, 1) := by decide +kernel
theorem dX10_elements__171 : decode cX10_elements_ 171 = .ok (.ifCond .eq 94, 3) := by decide +kernel
theorem dX10_elements__174 : decode cX10_elements_ 174 = .ok (.iload 8, 2) := by decide +kernel
theorem dX10_elements__176 : decode cX10_elements_ 176 = .ok (.iconst (-1), 1) := by decide +kernel
theorem dX10_elements__177 : decode cX10_elements_ 177 = .ok (.if_icmp .eq 11, 3) := by decide +kernel
theorem dX10_elements__180 : decode cX10_elements_ 180 = .ok (.aload_n 0, 1) := by decide +kernel
theorem dX10_elements__181 : decode cX10_elements_ 181 = .ok (.iload 8, 2) := by decide +kernel
theorem dX10_elements__183 : decode cX10_elements_ 183 = .ok (.iload 4, 2) := by decide +kernel
theorem dX10_elements__185 : decode cX10_elements_ 185 = .ok (.invokevirtual 324, 3) := by decide +kernel
theorem dX10_elements__188 : decode cX10_elements_ 188 = .ok (.aload_n 0, 1) := by decide +kernel
theorem dX10_elements__189 : decode cX10_elements_ 189 = .ok (.ldc2_w 328, 3) := by decide +kernel
theorem dX10_elements__192 : decode cX10_elements_ 192 = .ok (.iconst 4, 1) := by decide +kernel
theorem dX10_elements__193 : decode cX10_elements_ 193 = .ok (.invokevirtual 310, 3) := by decide +kernel
theorem dX10_elements__196 : decode cX10_elements_ 196 = .ok (.aload_n 0, 1) := by decide +kernel
theorem dX10_elements__197 : decode cX10_elements_ 197 = .ok (.iload 4, 2) := by decide +kernel
theorem dX10_elements__199 : decode cX10_elements_ 199 = .ok (.invokevirtual 320, 3) := by decide +kernel
theorem dX10_elements__202 : decode cX10_elements_ 202 = .ok (.istore 8, 2) := by decide +kernel
theorem dX10_elements__204 : decode cX10_elements_ 204 = .ok (.lload 12, 2) := by decide +kernel
theorem dX10_elements__206 : decode cX10_elements_ 206 = .ok (.lstore 10, 2) := by decide +kernel
theorem dX10_elements__208 : decode cX10_elements_ 208 = .ok (.iconst 0, 1) := by decide +kernel
theorem dX10_elements__209 : decode cX10_elements_ 209 = .ok (.istore 9, 2) := by decide +kernel
theorem dX10_elements__211 : decode cX10_elements_ 211 = .ok (.aload_n 0, 1) := by decide +kernel
theorem dX10_elements__212 : decode cX10_elements_ 212 = .ok (.sipush 231, 3) := by decide +kernel
theorem dX10_elements__215 : decode cX10_elements_ 215 = .ok (.invokevirtual 88, 3) := by decide +kernel
theorem dX10_elements__218 : decode cX10_elements_ 218 = .ok (.iconst 1, 1) := by decide +kernel
theorem dX10_elements__219 : decode cX10_elements_ 219 = .ok (.istore 16, 2) := by decide +kernel
theorem dX10_elements__221 : decode cX10_elements_ 221 = .ok (.iload 16, 2) := by decide +kernel
theorem dX10_elements__223 : decode cX10_elements_ 223 = .ok (.bipush 8, 2) := by decide +kernel
theorem dX10_elements__225 : decode cX10_elements_ 225 = .ok (.if_icmp .ge 22, 3) := by decide +kernel
theorem dX10_elements__228 : decode cX10_elements_ 228 = .ok (.lload 12, 2) := by decide +kernel
theorem dX10_elements__230 : decode cX10_elements_ 230 = .ok (.bipush 8, 2) := by decide +kernel
theorem dX10_elements__232 : decode cX10_elements_ 232 = .ok (.iload 16, 2) := by decide +kernel
theorem dX10_elements__234 : decode cX10_elements_ 234 = .ok (.imul, 1) := by decide +kernel
theorem dX10_elements__235 : decode cX10_elements_ 235 = .ok (.lshr, 1) := by decide +kernel
theorem dX10_elements__236 : decode cX10_elements_ 236 = .ok (.lconst 0, 1) := by decide +kernel
theorem dX10_elements__237 : decode cX10_elements_ 237 = .ok (.lcmp, 1) := by decide +kernel
theorem dX10_elements__238 : decode cX10_elements_ 238 = .ok (.ifCond .eq 9, 3) := by decide +kernel
theorem dX10_elements__241 : decode cX10_elements_ 241 = .ok (.iinc 16 1, 3) := by decide +kernel
theorem dX10_elements__244 : decode cX10_elements_ 244 = .ok (.goto (-23), 3) := by decide +kernel
theorem dX10_elements__247 : decode cX10_elements_ 247 = .ok (.aload_n 0, 1) := by decide +kernel
theorem dX10_elements__248 : decode cX10_elements_ 248 = .ok (.sipush 128, 3) := by decide +kernel
theorem dX10_elements__251 : decode cX10_elements_ 251 = .ok (.iload 16, 2) := by decide +kernel
theorem dX10_elements__253 : decode cX10_elements_ 253 = .ok (.iadd, 1) := by decide +kernel
theorem dX10_elements__254 : decode cX10_elements_ 254 = .ok (.invokevirtual 88, 3) := by decide +kernel
theorem dX10_elements__257 : decode cX10_elements_ 257 = .ok (.aload_n 0, 1) := by decide +kernel
theorem dX10_elements__258 : decode cX10_elements_ 258 = .ok (.lload 12, 2) := by decide +kernel
