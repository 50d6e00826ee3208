theorem dX9_takeSpareList_14 : decode cX9_takeSpareList 14 = .ok (.iconst (-1), 1) := by decide +kernel
theorem dX9_takeSpareList_15 : decode cX9_takeSpareList 15 = .ok (.ireturn, 1) := by decide +kernel
theorem dX9_takeSpareList_16 : decode cX9_takeSpareList 16 = .ok (.aload_n 0, 1) := by decide +kernel
theorem dX9_takeSpareList_17 : decode cX9_takeSpareList 17 = .ok (.getfield 27, 3) := by decide +kernel
theorem dX9_takeSpareList_20 : decode cX9_takeSpareList 20 = .ok (.astore_n 1, 1) := by decide +kernel
theorem dX9_takeSpareList_21 : decode cX9_takeSpareList 21 = .ok (.aload_n 0, 1) := by decide +kernel
theorem dX9_takeSpareList_22 : decode cX9_takeSpareList 22 = .ok (.aload_n 0, 1) := by decide +kernel
theorem dX9_takeSpareList_23 : decode cX9_takeSpareList 23 = .ok (.getfield 31, 3) := by decide +kernel
theorem dX9_takeSpareList_26 : decode cX9_takeSpareList 26 = .ok (.putfield 27, 3) := by decide +kernel
theorem dX9_takeSpareList_29 : decode cX9_takeSpareList 29 = .ok (.aload_n 0, 1) := by decide +kernel
theorem dX9_takeSpareList_30 : decode cX9_takeSpareList 30 = .ok (.aload_n 1, 1) := by decide +kernel
theorem dX9_takeSpareList_31 : decode cX9_takeSpareList 31 = .ok (.putfield 31, 3) := by decide +kernel
theorem dX9_takeSpareList_34 : decode cX9_takeSpareList 34 = .ok (.aload_n 0, 1) := by decide +kernel
theorem dX9_takeSpareList_35 : decode cX9_takeSpareList 35 = .ok (.getfield 27, 3) := by decide +kernel
theorem dX9_takeSpareList_38 : decode cX9_takeSpareList 38 = .ok (.getfield 102, 3) := by decide +kernel
theorem dX9_takeSpareList_41 : decode cX9_takeSpareList 41 = .ok (.ireturn, 1) := by decide +kernel
theorem dX10_init_0 : decode cX10_init 0 = .ok (.aload_n 0, 1) := by decide +kernel
theorem dX10_init_1 : decode cX10_init 1 = .ok (.invokespecial 1, 3) := by decide +kernel
theorem dX10_init_4 : decode cX10_init 4 = .ok (.aload_n 0, 1) := by decide +kernel
theorem dX10_init_5 : decode cX10_init 5 = .ok (.sipush 6000, 3) := by decide +kernel
theorem dX10_init_8 : decode cX10_init 8 = .ok (.newarray .byte, 2) := by decide +kernel
theorem dX10_init_10 : decode cX10_init 10 = .ok (.putfield 7, 3) := by decide +kernel
theorem dX10_init_13 : decode cX10_init 13 = .ok (.aload_n 0, 1) := by decide +kernel
theorem dX10_init_14 : decode cX10_init 14 = .ok (.sipush 6000, 3) := by decide +kernel
theorem dX10_init_17 : decode cX10_init 17 = .ok (.newarray .byte, 2) := by decide +kernel
theorem dX10_init_19 : decode cX10_init 19 = .ok (.putfield 13, 3) := by decide +kernel
theorem dX10_init_22 : decode cX10_init 22 = .ok (.aload_n 0, 1) := by decide +kernel
theorem dX10_init_23 : decode cX10_init 23 = .ok (.sipush 6000, 3) := by decide +kernel
theorem dX10_init_26 : decode cX10_init 26 = .ok (.newarray .byte, 2) := by decide +kernel
theorem dX10_init_28 : decode cX10_init 28 = .ok (.putfield 16, 3) := by decide +kernel
theorem dX10_init_31 : decode cX10_init 31 = .ok (.aload_n 0, 1) := by decide +kernel
theorem dX10_init_32 : decode cX10_init 32 = .ok (.bipush 64, 2) := by decide +kernel
theorem dX10_init_34 : decode cX10_init 34 = .ok (.newarray .int, 2) := by decide +kernel
theorem dX10_init_36 : decode cX10_init 36 = .ok (.putfield 19, 3) := by decide +kernel
theorem dX10_init_39 : decode cX10_init 39 = .ok (.aload_n 0, 1) := by decide +kernel
theorem dX10_init_40 : decode cX10_init 40 = .ok (.bipush 64, 2) := by decide +kernel
theorem dX10_init_42 : decode cX10_init 42 = .ok (.newarray .int, 2) := by decide +kernel
theorem dX10_init_44 : decode cX10_init 44 = .ok (.putfield 23, 3) := by decide +kernel
theorem dX10_init_47 : decode cX10_init 47 = .ok (.aload_n 0, 1) := by decide +kernel
theorem dX10_init_48 : decode cX10_init 48 = .ok (.bipush 64, 2) := by decide +kernel
theorem dX10_init_50 : decode cX10_init 50 = .ok (.newarray .long, 2) := by decide +kernel
theorem dX10_init_52 : decode cX10_init 52 = .ok (.putfield 26, 3) := by decide +kernel
theorem dX10_init_55 : decode cX10_init 55 = .ok (.aload_n 0, 1) := by decide +kernel
theorem dX10_init_56 : decode cX10_init 56 = .ok (.bipush 64, 2) := by decide +kernel
theorem dX10_init_58 : decode cX10_init 58 = .ok (.newarray .long, 2) := by decide +kernel
theorem dX10_init_60 : decode cX10_init 60 = .ok (.putfield 30, 3) := by decide +kernel
theorem dX10_init_63 : decode cX10_init 63 = .ok (.aload_n 0, 1) := by decide +kernel
theorem dX10_init_64 : decode cX10_init 64 = .ok (.sipush 2400, 3) := by decide +kernel
theorem dX10_init_67 : decode cX10_init 67 = .ok (.newarray .byte, 2) := by decide +kernel
theorem dX10_init_69 : decode cX10_init 69 = .ok (.putfield 33, 3) := by decide +kernel
theorem dX10_init_72 : decode cX10_init 72 = .ok (.aload_n 0, 1) := by decide +kernel
theorem dX10_init_73 : decode cX10_init 73 = .ok (.sipush 2400, 3) := by decide +kernel
theorem dX10_init_76 : decode cX10_init 76 = .ok (.newarray .byte, 2) := by decide +kernel
theorem dX10_init_78 : decode cX10_init 78 = .ok (.putfield 36, 3) := by decide +kernel
theorem dX10_init_81 : decode cX10_init 81 = .ok (.aload_n 0, 1) := by decide +kernel
theorem dX10_init_82 : decode cX10_init 82 = .ok (.iconst (-1), 1) := by decide +kernel
theorem dX10_init_83 : decode cX10_init 83 = .ok (.putfield 39, 3) := by decide +kernel
theorem dX10_init_86 : decode cX10_init 86 = .ok (.aload_n 0, 1) := by decide +kernel
theorem dX10_init_87 : decode cX10_init 87 = .ok (.sipush 256, 3) := by decide +kernel
theorem dX10_init_90 : decode cX10_init 90 = .ok (.newarray .int, 2) := by decide +kernel
theorem dX10_init_92 : decode cX10_init 92 = .ok (.putfield 43, 3) := by decide +kernel
theorem dX10_init_95 : decode cX10_init 95 = .ok (.aload_n 0, 1) := by decide +kernel
theorem dX10_init_96 : decode cX10_init 96 = .ok (.bipush 40, 2) := by decide +kernel
theorem dX10_init_98 : decode cX10_init 98 = .ok (.newarray .byte, 2) := by decide +kernel
theorem dX10_init_100 : decode cX10_init 100 = .ok (.dup, 1) := by decide +kernel
theorem dX10_init_101 : decode cX10_init 101 = .ok (.iconst 0, 1) := by decide +kernel
theorem dX10_init_102 : decode cX10_init 102 = .ok (.bipush 26, 2) := by decide +kernel
theorem dX10_init_104 : decode cX10_init 104 = .ok (.bastore, 1) := by decide +kernel
theorem dX10_init_105 : decode cX10_init 105 = .ok (.dup, 1) := by decide +kernel
theorem dX10_init_106 : decode cX10_init 106 = .ok (.iconst 1, 1) := by decide +kernel
theorem dX10_init_107 : decode cX10_init 107 = .ok (.bipush 69, 2) := by decide +kernel
theorem dX10_init_109 : decode cX10_init 109 = .ok (.bastore, 1) := by decide +kernel
theorem dX10_init_110 : decode cX10_init 110 = .ok (.dup, 1) := by decide +kernel
theorem dX10_init_111 : decode cX10_init 111 = .ok (.iconst 2, 1) := by decide +kernel
theorem dX10_init_112 : decode cX10_init 112 = .ok (.bipush (-33), 2) := by decide +kernel
theorem dX10_init_114 : decode cX10_init 114 = .ok (.bastore, 1) := by decide +kernel
theorem dX10_init_115 : decode cX10_init 115 = .ok (.dup, 1) := by decide +kernel
theorem dX10_init_116 : decode cX10_init 116 = .ok (.iconst 3, 1) := by decide +kernel
theorem dX10_init_117 : decode cX10_init 117 = .ok (.bipush (-93), 2) := by decide +kernel
theorem dX10_init_119 : decode cX10_init 119 = .ok (.bastore, 1) := by decide +kernel
theorem dX10_init_120 : decode cX10_init 120 = .ok (.dup, 1) := by decide +kernel
theorem dX10_init_121 : decode cX10_init 121 = .ok (.iconst 4, 1) := by decide +kernel
theorem dX10_init_122 : decode cX10_init 122 = .ok (.bipush (-93), 2) := by decide +kernel
theorem dX10_init_124 : decode cX10_init 124 = .ok (.bastore, 1) := by decide +kernel
theorem dX10_init_125 : decode cX10_init 125 = .ok (.dup, 1) := by decide +kernel
theorem dX10_init_126 : decode cX10_init 126 = .ok (.iconst 5, 1) := by decide +kernel
theorem dX10_init_127 : decode cX10_init 127 = .ok (.bipush 66, 2) := by decide +kernel
theorem dX10_init_129 : decode cX10_init 129 = .ok (.bastore, 1) := by decide +kernel
theorem dX10_init_130 : decode cX10_init 130 = .ok (.dup, 1) := by decide +kernel
theorem dX10_init_131 : decode cX10_init 131 = .ok (.bipush 6, 2) := by decide +kernel
theorem dX10_init_133 : decode cX10_init 133 = .ok (.bipush (-122), 2) := by decide +kernel
theorem dX10_init_135 : decode cX10_init 135 = .ok (.bastore, 1) := by decide +kernel
theorem dX10_init_136 : decode cX10_init 136 = .ok (.dup, 1) := by decide +kernel
theorem dX10_init_137 : decode cX10_init 137 = .ok (.bipush 7, 2) := by decide +kernel
theorem dX10_init_139 : decode cX10_init 139 = .ok (.bipush (-127), 2) := by decide +kernel
theorem dX10_init_141 : decode cX10_init 141 = .ok (.bastore, 1) := by decide +kernel
theorem dX10_init_142 : decode cX10_init 142 = .ok (.dup, 1) := by decide +kernel
theorem dX10_init_143 : decode cX10_init 143 = .ok (.bipush 8, 2) := by decide +kernel
theorem dX10_init_145 : decode cX10_init 145 = .ok (.iconst 1, 1) := by decide +kernel
theorem dX10_init_146 : decode cX10_init 146 = .ok (.bastore, 1) := by decide +kernel
theorem dX10_init_147 : decode cX10_init 147 = .ok (.dup, 1) := by decide +kernel
theorem dX10_init_148 : decode cX10_init 148 = .ok (.bipush 9, 2) := by decide +kernel
theorem dX10_init_150 : decode cX10_init 150 = .ok (.bipush 66, 2) := by decide +kernel
theorem dX10_init_152 : decode cX10_init 152 = .ok (.bastore, 1) := by decide +kernel
theorem dX10_init_153 : decode cX10_init 153 = .ok (.dup, 1) := by decide +kernel
theorem dX10_init_154 : decode cX10_init 154 = .ok (.bipush 10, 2) := by decide +kernel
theorem dX10_init_156 : decode cX10_init 156 = .ok (.bipush (-9), 2) := by decide +kernel
theorem dX10_init_158 : decode cX10_init 158 = .ok (.bastore, 1) := by decide +kernel
theorem dX10_init_159 : decode cX10_init 159 = .ok (.dup, 1) := by decide +kernel
theorem dX10_init_160 : decode cX10_init 160 = .ok (.bipush 11, 2) := by decide +kernel
theorem dX10_init_162 : decode cX10_init 162 = .ok (.bipush (-127), 2) := by decide +kernel
theorem dX10_init_164 : decode cX10_init 164 = .ok (.bastore, 1) := by decide +kernel
theorem dX10_init_165 : decode cX10_init 165 = .ok (.dup, 1) := by decide +kernel
theorem dX10_init_166 : decode cX10_init 166 = .ok (.bipush 12, 2) := by decide +kernel
theorem dX10_init_168 : decode cX10_init 168 = .ok (.iconst 1, 1) := by decide +kernel
theorem dX10_init_169 : decode cX10_init 169 = .ok (.bastore, 1) := by decide +kernel
theorem dX10_init_170 : decode cX10_init 170 = .ok (.dup, 1) := by decide +kernel
theorem dX10_init_171 : decode cX10_init 171 = .ok (.bipush 13, 2) := by decide +kernel
theorem dX10_init_173 : decode cX10_init 173 = .ok (.bipush 66, 2) := by decide +kernel
theorem dX10_init_175 : decode cX10_init 175 = .ok (.bastore, 1) := by decide +kernel
theorem dX10_init_176 : decode cX10_init 176 = .ok (.dup, 1) := by decide +kernel
theorem dX10_init_177 : decode cX10_init 177 = .ok (.bipush 14, 2) := by decide +kernel
theorem dX10_init_179 : decode cX10_init 179 = .ok (.bipush (-14), 2) := by decide +kernel
theorem dX10_init_181 : decode cX10_init 181 = .ok (.bastore, 1) := by decide +kernel
theorem dX10_init_182 : decode cX10_init 182 = .ok (.dup, 1) := by decide +kernel
theorem dX10_init_183 : decode cX10_init 183 = .ok (.bipush 15, 2) := by decide +kernel
theorem dX10_init_185 : decode cX10_init 185 = .ok (.bipush (-127), 2) := by decide +kernel
theorem dX10_init_187 : decode cX10_init 187 = .ok (.bastore, 1) := by decide +kernel
theorem dX10_init_188 : decode cX10_init 188 = .ok (.dup, 1) := by decide +kernel
theorem dX10_init_189 : decode cX10_init 189 = .ok (.bipush 16, 2) := by decide +kernel
theorem dX10_init_191 : decode cX10_init 191 = .ok (.iconst 4, 1) := by decide +kernel
theorem dX10_init_192 : decode cX10_init 192 = .ok (.bastore, 1) := by decide +kernel
theorem dX10_init_193 : decode cX10_init 193 = .ok (.dup, 1) := by decide +kernel
theorem dX10_init_194 : decode cX10_init 194 = .ok (.bipush 17, 2) := by decide +kernel
theorem dX10_init_196 : decode cX10_init 196 = .ok (.bipush 66, 2) := by decide +kernel
theorem dX10_init_198 : decode cX10_init 198 = .ok (.bastore, 1) := by decide +kernel
theorem dX10_init_199 : decode cX10_init 199 = .ok (.dup, 1) := by decide +kernel
theorem dX10_init_200 : decode cX10_init 200 = .ok (.bipush 18, 2) := by decide +kernel
theorem dX10_init_202 : decode cX10_init 202 = .ok (.bipush (-13), 2) := by decide +kernel
theorem dX10_init_204 : decode cX10_init 204 = .ok (.bastore, 1) := by decide +kernel
theorem dX10_init_205 : decode cX10_init 205 = .ok (.dup, 1) := by decide +kernel
theorem dX10_init_206 : decode cX10_init 206 = .ok (.bipush 19, 2) := by decide +kernel
theorem dX10_init_208 : decode cX10_init 208 = .ok (.bipush (-127), 2) := by decide +kernel
theorem dX10_init_210 : decode cX10_init 210 = .ok (.bastore, 1) := by decide +kernel
theorem dX10_init_211 : decode cX10_init 211 = .ok (.dup, 1) := by decide +kernel
theorem dX10_init_212 : decode cX10_init 212 = .ok (.bipush 20, 2) := by decide +kernel
theorem dX10_init_214 : decode cX10_init 214 = .ok (.bipush 8, 2) := by decide +kernel
theorem dX10_init_216 : decode cX10_init 216 = .ok (.bastore, 1) := by decide +kernel
theorem dX10_init_217 : decode cX10_init 217 = .ok (.dup, 1) := by decide +kernel
theorem dX10_init_218 : decode cX10_init 218 = .ok (.bipush 21, 2) := by decide +kernel
theorem dX10_init_220 : decode cX10_init 220 = .ok (.bipush 66, 2) := by decide +kernel
theorem dX10_init_222 : decode cX10_init 222 = .ok (.bastore, 1) := by decide +kernel
theorem dX10_init_223 : decode cX10_init 223 = .ok (.dup, 1) := by decide +kernel
theorem dX10_init_224 : decode cX10_init 224 = .ok (.bipush 22, 2) := by decide +kernel
theorem dX10_init_226 : decode cX10_init 226 = .ok (.bipush (-126), 2) := by decide +kernel
theorem dX10_init_228 : decode cX10_init 228 = .ok (.bastore, 1) := by decide +kernel
theorem dX10_init_229 : decode cX10_init 229 = .ok (.dup, 1) := by decide +kernel
theorem dX10_init_230 : decode cX10_init 230 = .ok (.bipush 23, 2) := by decide +kernel
theorem dX10_init_232 : decode cX10_init 232 = .ok (.bipush (-120), 2) := by decide +kernel
theorem dX10_init_234 : decode cX10_init 234 = .ok (.bastore, 1) := by decide +kernel
theorem dX10_init_235 : decode cX10_init 235 = .ok (.dup, 1) := by decide +kernel
theorem dX10_init_236 : decode cX10_init 236 = .ok (.bipush 24, 2) := by decide +kernel
theorem dX10_init_238 : decode cX10_init 238 = .ok (.bipush 109, 2) := by decide +kernel
theorem dX10_init_240 : decode cX10_init 240 = .ok (.bastore, 1) := by decide +kernel
theorem dX10_init_241 : decode cX10_init 241 = .ok (.dup, 1) := by decide +kernel
theorem dX10_init_242 : decode cX10_init 242 = .ok (.bipush 25, 2) := by decide +kernel
theorem dX10_init_244 : decode cX10_init 244 = .ok (.bipush 97, 2) := by decide +kernel
theorem dX10_init_246 : decode cX10_init 246 = .ok (.bastore, 1) := by decide +kernel
theorem dX10_init_247 : decode cX10_init 247 = .ok (.dup, 1) := by decide +kernel
theorem dX10_init_248 : decode cX10_init 248 = .ok (.bipush 26, 2) := by decide +kernel
theorem dX10_init_250 : decode cX10_init 250 = .ok (.bipush 116, 2) := by decide +kernel
theorem dX10_init_252 : decode cX10_init 252 = .ok (.bastore, 1) := by decide +kernel
theorem dX10_init_253 : decode cX10_init 253 = .ok (.dup, 1) := by decide +kernel
theorem dX10_init_254 : decode cX10_init 254 = .ok (.bipush 27, 2) := by decide +kernel
theorem dX10_init_256 : decode cX10_init 256 = .ok (.bipush 114, 2) := by decide +kernel
theorem dX10_init_258 : decode cX10_init 258 = .ok (.bastore, 1) := by decide +kernel
theorem dX10_init_259 : decode cX10_init 259 = .ok (.dup, 1) := by decide +kernel
theorem dX10_init_260 : decode cX10_init 260 = .ok (.bipush 28, 2) := by decide +kernel
theorem dX10_init_262 : decode cX10_init 262 = .ok (.bipush 111, 2) := by decide +kernel
theorem dX10_init_264 : decode cX10_init 264 = .ok (.bastore, 1) := by decide +kernel
theorem dX10_init_265 : decode cX10_init 265 = .ok (.dup, 1) := by decide +kernel
theorem dX10_init_266 : decode cX10_init 266 = .ok (.bipush 29, 2) := by decide +kernel
theorem dX10_init_268 : decode cX10_init 268 = .ok (.bipush 115, 2) := by decide +kernel
theorem dX10_init_270 : decode cX10_init 270 = .ok (.bastore, 1) := by decide +kernel
theorem dX10_init_271 : decode cX10_init 271 = .ok (.dup, 1) := by decide +kernel
theorem dX10_init_272 : decode cX10_init 272 = .ok (.bipush 30, 2) := by decide +kernel
theorem dX10_init_274 : decode cX10_init 274 = .ok (.bipush 107, 2) := by decide +kernel
theorem dX10_init_276 : decode cX10_init 276 = .ok (.bastore, 1) := by decide +kernel
theorem dX10_init_277 : decode cX10_init 277 = .ok (.dup, 1) := by decide +kernel
theorem dX10_init_278 : decode cX10_init 278 = .ok (.bipush 31, 2) := by decide +kernel
theorem dX10_init_280 : decode cX10_init 280 = .ok (.bipush 97, 2) := by decide +kernel
theorem dX10_init_282 : decode cX10_init 282 = .ok (.bastore, 1) := by decide +kernel
theorem dX10_init_283 : decode cX10_init 283 = .ok (.dup, 1) := by decide +kernel
theorem dX10_init_284 : decode cX10_init 284 = .ok (.bipush 32, 2) := by decide +kernel
theorem dX10_init_286 : decode cX10_init 286 = .ok (.bipush 66, 2) := by decide +kernel
theorem dX10_init_288 : decode cX10_init 288 = .ok (.bastore, 1) := by decide +kernel
theorem dX10_init_289 : decode cX10_init 289 = .ok (.dup, 1) := by decide +kernel
theorem dX10_init_290 : decode cX10_init 290 = .ok (.bipush 33, 2) := by decide +kernel
theorem dX10_init_292 : decode cX10_init 292 = .ok (.bipush (-121), 2) := by decide +kernel
theorem dX10_init_294 : decode cX10_init 294 = .ok (.bastore, 1) := by decide +kernel
theorem dX10_init_295 : decode cX10_init 295 = .ok (.dup, 1) := by decide +kernel
theorem dX10_init_296 : decode cX10_init 296 = .ok (.bipush 34, 2) := by decide +kernel
theorem dX10_init_298 : decode cX10_init 298 = .ok (.bipush (-127), 2) := by decide +kernel
theorem dX10_init_300 : decode cX10_init 300 = .ok (.bastore, 1) := by decide +kernel
theorem dX10_init_301 : decode cX10_init 301 = .ok (.dup, 1) := by decide +kernel
theorem dX10_init_302 : decode cX10_init 302 = .ok (.bipush 35, 2) := by decide +kernel
theorem dX10_init_304 : decode cX10_init 304 = .ok (.iconst 4, 1) := by decide +kernel
theorem dX10_init_305 : decode cX10_init 305 = .ok (.bastore, 1) := by decide +kernel
theorem dX10_init_306 : decode cX10_init 306 = .ok (.dup, 1) := by decide +kernel
theorem dX10_init_307 : decode cX10_init 307 = .ok (.bipush 36, 2) := by decide +kernel
theorem dX10_init_309 : decode cX10_init 309 = .ok (.bipush 66, 2) := by decide +kernel
theorem dX10_init_311 : decode cX10_init 311 = .ok (.bastore, 1) := by decide +kernel
theorem dX10_init_312 : decode cX10_init 312 = .ok (.dup, 1) := by decide +kernel
theorem dX10_init_313 : decode cX10_init 313 = .ok (.bipush 37, 2) := by decide +kernel
theorem dX10_init_315 : decode cX10_init 315 = .ok (.bipush (-123), 2) := by decide +kernel
theorem dX10_init_317 : decode cX10_init 317 = .ok (.bastore, 1) := by decide +kernel
theorem dX10_init_318 : decode cX10_init 318 = .ok (.dup, 1) := by decide +kernel
theorem dX10_init_319 : decode cX10_init 319 = .ok (.bipush 38, 2) := by decide +kernel
theorem dX10_init_321 : decode cX10_init 321 = .ok (.bipush (-127), 2) := by decide +kernel
theorem dX10_init_323 : decode cX10_init 323 = .ok (.bastore, 1) := by decide +kernel
theorem dX10_init_324 : decode cX10_init 324 = .ok (.dup, 1) := by decide +kernel
theorem dX10_init_325 : decode cX10_init 325 = .ok (.bipush 39, 2) := by decide +kernel
theorem dX10_init_327 : decode cX10_init 327 = .ok (.iconst 2, 1) := by decide +kernel
theorem dX10_init_328 : decode cX10_init 328 = .ok (.bastore, 1) := by decide +kernel
theorem dX10_init_329 : decode cX10_init 329 = .ok (.putfield 46, 3) := by decide +kernel
theorem dX10_init_332 : decode cX10_init 332 = .ok (.aload_n 0, 1) := by decide +kernel
theorem dX10_init_333 : decode cX10_init 333 = .ok (.bipush 20, 2) := by decide +kernel
theorem dX10_init_335 : decode cX10_init 335 = .ok (.newarray .byte, 2) := by decide +kernel
theorem dX10_init_337 : decode cX10_init 337 = .ok (.dup, 1) := by decide +kernel
theorem dX10_init_338 : decode cX10_init 338 = .ok (.iconst 0, 1) := by decide +kernel
theorem dX10_init_339 : decode cX10_init 339 = .ok (.bipush 21, 2) := by decide +kernel
theorem dX10_init_341 : decode cX10_init 341 = .ok (.bastore, 1) := by decide +kernel
theorem dX10_init_342 : decode cX10_init 342 = .ok (.dup, 1) := by decide +kernel
theorem dX10_init_343 : decode cX10_init 343 = .ok (.iconst 1, 1) := by decide +kernel
theorem dX10_init_344 : decode cX10_init 344 = .ok (.bipush 73, 2) := by decide +kernel
theorem dX10_init_346 : decode cX10_init 346 = .ok (.bastore, 1) := by decide +kernel
theorem dX10_init_347 : decode cX10_init 347 = .ok (.dup, 1) := by decide +kernel
theorem dX10_init_348 : decode cX10_init 348 = .ok (.iconst 2, 1) := by decide +kernel
theorem dX10_init_349 : decode cX10_init 349 = .ok (.bipush (-87), 2) := by decide +kernel
theorem dX10_init_351 : decode cX10_init 351 = .ok (.bastore, 1) := by decide +kernel
theorem dX10_init_352 : decode cX10_init 352 = .ok (.dup, 1) := by decide +kernel
theorem dX10_init_353 : decode cX10_init 353 = .ok (.iconst 3, 1) := by decide +kernel
theorem dX10_init_354 : decode cX10_init 354 = .ok (.bipush 102, 2) := by decide +kernel
theorem dX10_init_356 : decode cX10_init 356 = .ok (.bastore, 1) := by decide +kernel
theorem dX10_init_357 : decode cX10_init 357 = .ok (.dup, 1) := by decide +kernel
theorem dX10_init_358 : decode cX10_init 358 = .ok (.iconst 4, 1) := by decide +kernel
theorem dX10_init_359 : decode cX10_init 359 = .ok (.bipush (-113), 2) := by decide +kernel
theorem dX10_init_361 : decode cX10_init 361 = .ok (.bastore, 1) := by decide +kernel
theorem dX10_init_362 : decode cX10_init 362 = .ok (.dup, 1) := by decide +kernel
theorem dX10_init_363 : decode cX10_init 363 = .ok (.iconst 5, 1) := by decide +kernel
theorem dX10_init_364 : decode cX10_init 364 = .ok (.bipush 42, 2) := by decide +kernel
theorem dX10_init_366 : decode cX10_init 366 = .ok (.bastore, 1) := by decide +kernel
theorem dX10_init_367 : decode cX10_init 367 = .ok (.dup, 1) := by decide +kernel
theorem dX10_init_368 : decode cX10_init 368 = .ok (.bipush 6, 2) := by decide +kernel
theorem dX10_init_370 : decode cX10_init 370 = .ok (.bipush (-41), 2) := by decide +kernel
theorem dX10_init_372 : decode cX10_init 372 = .ok (.bastore, 1) := by decide +kernel
theorem dX10_init_373 : decode cX10_init 373 = .ok (.dup, 1) := by decide +kernel
theorem dX10_init_374 : decode cX10_init 374 = .ok (.bipush 7, 2) := by decide +kernel
theorem dX10_init_376 : decode cX10_init 376 = .ok (.bipush (-79), 2) := by decide +kernel
theorem dX10_init_378 : decode cX10_init 378 = .ok (.bastore, 1) := by decide +kernel
theorem dX10_init_379 : decode cX10_init 379 = .ok (.dup, 1) := by decide +kernel
theorem dX10_init_380 : decode cX10_init 380 = .ok (.bipush 8, 2) := by decide +kernel
theorem dX10_init_382 : decode cX10_init 382 = .ok (.bipush (-125), 2) := by decide +kernel
theorem dX10_init_384 : decode cX10_init 384 = .ok (.bastore, 1) := by decide +kernel
theorem dX10_init_385 : decode cX10_init 385 = .ok (.dup, 1) := by decide +kernel
theorem dX10_init_386 : decode cX10_init 386 = .ok (.bipush 9, 2) := by decide +kernel
theorem dX10_init_388 : decode cX10_init 388 = .ok (.bipush 15, 2) := by decide +kernel
theorem dX10_init_390 : decode cX10_init 390 = .ok (.bastore, 1) := by decide +kernel
theorem dX10_init_391 : decode cX10_init 391 = .ok (.dup, 1) := by decide +kernel
theorem dX10_init_392 : decode cX10_init 392 = .ok (.bipush 10, 2) := by decide +kernel
theorem dX10_init_394 : decode cX10_init 394 = .ok (.bipush 66, 2) := by decide +kernel
theorem dX10_init_396 : decode cX10_init 396 = .ok (.bastore, 1) := by decide +kernel
theorem dX10_init_397 : decode cX10_init 397 = .ok (.dup, 1) := by decide +kernel
theorem dX10_init_398 : decode cX10_init 398 = .ok (.bipush 11, 2) := by decide +kernel
theorem dX10_init_400 : decode cX10_init 400 = .ok (.bipush 64, 2) := by decide +kernel
theorem dX10_init_402 : decode cX10_init 402 = .ok (.bastore, 1) := by decide +kernel
theorem dX10_init_403 : decode cX10_init 403 = .ok (.dup, 1) := by decide +kernel
theorem dX10_init_404 : decode cX10_init 404 = .ok (.bipush 12, 2) := by decide +kernel
theorem dX10_init_406 : decode cX10_init 406 = .ok (.bipush 77, 2) := by decide +kernel
theorem dX10_init_408 : decode cX10_init 408 = .ok (.bastore, 1) := by decide +kernel
theorem dX10_init_409 : decode cX10_init 409 = .ok (.dup, 1) := by decide +kernel
theorem dX10_init_410 : decode cX10_init 410 = .ok (.bipush 13, 2) := by decide +kernel
theorem dX10_init_412 : decode cX10_init 412 = .ok (.bipush (-128), 2) := by decide +kernel
theorem dX10_init_414 : decode cX10_init 414 = .ok (.bastore, 1) := by decide +kernel
theorem dX10_init_415 : decode cX10_init 415 = .ok (.dup, 1) := by decide +kernel
theorem dX10_init_416 : decode cX10_init 416 = .ok (.bipush 14, 2) := by decide +kernel
theorem dX10_init_418 : decode cX10_init 418 = .ok (.bipush (-127), 2) := by decide +kernel
theorem dX10_init_420 : decode cX10_init 420 = .ok (.bastore, 1) := by decide +kernel
theorem dX10_init_421 : decode cX10_init 421 = .ok (.dup, 1) := by decide +kernel
theorem dX10_init_422 : decode cX10_init 422 = .ok (.bipush 15, 2) := by decide +kernel
theorem dX10_init_424 : decode cX10_init 424 = .ok (.bipush 97, 2) := by decide +kernel
theorem dX10_init_426 : decode cX10_init 426 = .ok (.bastore, 1) := by decide +kernel
theorem dX10_init_427 : decode cX10_init 427 = .ok (.dup, 1) := by decide +kernel
theorem dX10_init_428 : decode cX10_init 428 = .ok (.bipush 16, 2) := by decide +kernel
theorem dX10_init_430 : decode cX10_init 430 = .ok (.bipush 87, 2) := by decide +kernel
theorem dX10_init_432 : decode cX10_init 432 = .ok (.bastore, 1) := by decide +kernel
theorem dX10_init_433 : decode cX10_init 433 = .ok (.dup, 1) := by decide +kernel
theorem dX10_init_434 : decode cX10_init 434 = .ok (.bipush 17, 2) := by decide +kernel
theorem dX10_init_436 : decode cX10_init 436 = .ok (.bipush 65, 2) := by decide +kernel
theorem dX10_init_438 : decode cX10_init 438 = .ok (.bastore, 1) := by decide +kernel
theorem dX10_init_439 : decode cX10_init 439 = .ok (.dup, 1) := by decide +kernel
theorem dX10_init_440 : decode cX10_init 440 = .ok (.bipush 18, 2) := by decide +kernel
theorem dX10_init_442 : decode cX10_init 442 = .ok (.bipush (-127), 2) := by decide +kernel
theorem dX10_init_444 : decode cX10_init 444 = .ok (.bastore, 1) := by decide +kernel
theorem dX10_init_445 : decode cX10_init 445 = .ok (.dup, 1) := by decide +kernel
theorem dX10_init_446 : decode cX10_init 446 = .ok (.bipush 19, 2) := by decide +kernel
theorem dX10_init_448 : decode cX10_init 448 = .ok (.bipush 97, 2) := by decide +kernel
theorem dX10_init_450 : decode cX10_init 450 = .ok (.bastore, 1) := by decide +kernel
theorem dX10_init_451 : decode cX10_init 451 = .ok (.putfield 49, 3) := by decide +kernel
theorem dX10_init_454 : decode cX10_init 454 = .ok (.aload_n 0, 1) := by decide +kernel
theorem dX10_init_455 : decode cX10_init 455 = .ok (.bipush 19, 2) := by decide +kernel
theorem dX10_init_457 : decode cX10_init 457 = .ok (.newarray .byte, 2) := by decide +kernel
theorem dX10_init_459 : decode cX10_init 459 = .ok (.dup, 1) := by decide +kernel
theorem dX10_init_460 : decode cX10_init 460 = .ok (.iconst 0, 1) := by decide +kernel
theorem dX10_init_461 : decode cX10_init 461 = .ok (.bipush 22, 2) := by decide +kernel
theorem dX10_init_463 : decode cX10_init 463 = .ok (.bastore, 1) := by decide +kernel
theorem dX10_init_464 : decode cX10_init 464 = .ok (.dup, 1) := by decide +kernel
theorem dX10_init_465 : decode cX10_init 465 = .ok (.iconst 1, 1) := by decide +kernel
theorem dX10_init_466 : decode cX10_init 466 = .ok (.bipush 84, 2) := by decide +kernel
theorem dX10_init_468 : decode cX10_init 468 = .ok (.bastore, 1) := by decide +kernel
theorem dX10_init_469 : decode cX10_init 469 = .ok (.dup, 1) := by decide +kernel
theorem dX10_init_470 : decode cX10_init 470 = .ok (.iconst 2, 1) := by decide +kernel
theorem dX10_init_471 : decode cX10_init 471 = .ok (.bipush (-82), 2) := by decide +kernel
theorem dX10_init_473 : decode cX10_init 473 = .ok (.bastore, 1) := by decide +kernel
theorem dX10_init_474 : decode cX10_init 474 = .ok (.dup, 1) := by decide +kernel
theorem dX10_init_475 : decode cX10_init 475 = .ok (.iconst 3, 1) := by decide +kernel
theorem dX10_init_476 : decode cX10_init 476 = .ok (.bipush 107, 2) := by decide +kernel
theorem dX10_init_478 : decode cX10_init 478 = .ok (.bastore, 1) := by decide +kernel
theorem dX10_init_479 : decode cX10_init 479 = .ok (.dup, 1) := by decide +kernel
theorem dX10_init_480 : decode cX10_init 480 = .ok (.iconst 4, 1) := by decide +kernel
theorem dX10_init_481 : decode cX10_init 481 = .ok (.bipush (-105), 2) := by decide +kernel
theorem dX10_init_483 : decode cX10_init 483 = .ok (.bastore, 1) := by decide +kernel
theorem dX10_init_484 : decode cX10_init 484 = .ok (.dup, 1) := by decide +kernel
theorem dX10_init_485 : decode cX10_init 485 = .ok (.iconst 5, 1) := by decide +kernel
theorem dX10_init_486 : decode cX10_init 486 = .ok (.bipush (-82), 2) := by decide +kernel
theorem dX10_init_488 : decode cX10_init 488 = .ok (.bastore, 1) := by decide +kernel
theorem dX10_init_489 : decode cX10_init 489 = .ok (.dup, 1) := by decide +kernel
theorem dX10_init_490 : decode cX10_init 490 = .ok (.bipush 6, 2) := by decide +kernel
theorem dX10_init_492 : decode cX10_init 492 = .ok (.bipush (-107), 2) := by decide +kernel
theorem dX10_init_494 : decode cX10_init 494 = .ok (.bastore, 1) := by decide +kernel
theorem dX10_init_495 : decode cX10_init 495 = .ok (.dup, 1) := by decide +kernel
theorem dX10_init_496 : decode cX10_init 496 = .ok (.bipush 7, 2) := by decide +kernel
theorem dX10_init_498 : decode cX10_init 498 = .ok (.bipush (-41), 2) := by decide +kernel
theorem dX10_init_500 : decode cX10_init 500 = .ok (.bastore, 1) := by decide +kernel
theorem dX10_init_501 : decode cX10_init 501 = .ok (.dup, 1) := by decide +kernel
theorem dX10_init_502 : decode cX10_init 502 = .ok (.bipush 8, 2) := by decide +kernel
theorem dX10_init_504 : decode cX10_init 504 = .ok (.bipush (-127), 2) := by decide +kernel
theorem dX10_init_506 : decode cX10_init 506 = .ok (.bastore, 1) := by decide +kernel
theorem dX10_init_507 : decode cX10_init 507 = .ok (.dup, 1) := by decide +kernel
theorem dX10_init_508 : decode cX10_init 508 = .ok (.bipush 9, 2) := by decide +kernel
theorem dX10_init_510 : decode cX10_init 510 = .ok (.iconst 1, 1) := by decide +kernel
theorem dX10_init_511 : decode cX10_init 511 = .ok (.bastore, 1) := by decide +kernel
theorem dX10_init_512 : decode cX10_init 512 = .ok (.dup, 1) := by decide +kernel
theorem dX10_init_513 : decode cX10_init 513 = .ok (.bipush 10, 2) := by decide +kernel
theorem dX10_init_515 : decode cX10_init 515 = .ok (.bipush 115, 2) := by decide +kernel
theorem dX10_init_517 : decode cX10_init 517 = .ok (.bastore, 1) := by decide +kernel
theorem dX10_init_518 : decode cX10_init 518 = .ok (.dup, 1) := by decide +kernel
theorem dX10_init_519 : decode cX10_init 519 = .ok (.bipush 11, 2) := by decide +kernel
theorem dX10_init_521 : decode cX10_init 521 = .ok (.bipush (-59), 2) := by decide +kernel
theorem dX10_init_523 : decode cX10_init 523 = .ok (.bastore, 1) := by decide +kernel
theorem dX10_init_524 : decode cX10_init 524 = .ok (.dup, 1) := by decide +kernel
theorem dX10_init_525 : decode cX10_init 525 = .ok (.bipush 12, 2) := by decide +kernel
theorem dX10_init_527 : decode cX10_init 527 = .ok (.bipush (-127), 2) := by decide +kernel
theorem dX10_init_529 : decode cX10_init 529 = .ok (.bastore, 1) := by decide +kernel
theorem dX10_init_530 : decode cX10_init 530 = .ok (.dup, 1) := by decide +kernel
theorem dX10_init_531 : decode cX10_init 531 = .ok (.bipush 13, 2) := by decide +kernel
theorem dX10_init_533 : decode cX10_init 533 = .ok (.iconst 1, 1) := by decide +kernel
theorem dX10_init_534 : decode cX10_init 534 = .ok (.bastore, 1) := by decide +kernel
theorem dX10_init_535 : decode cX10_init 535 = .ok (.dup, 1) := by decide +kernel
theorem dX10_init_536 : decode cX10_init 536 = .ok (.bipush 14, 2) := by decide +kernel
theorem dX10_init_538 : decode cX10_init 538 = .ok (.bipush (-125), 2) := by decide +kernel
theorem dX10_init_540 : decode cX10_init 540 = .ok (.bastore, 1) := by decide +kernel
theorem dX10_init_541 : decode cX10_init 541 = .ok (.dup, 1) := by decide +kernel
theorem dX10_init_542 : decode cX10_init 542 = .ok (.bipush 15, 2) := by decide +kernel
theorem dX10_init_544 : decode cX10_init 544 = .ok (.bipush (-127), 2) := by decide +kernel
theorem dX10_init_546 : decode cX10_init 546 = .ok (.bastore, 1) := by decide +kernel
theorem dX10_init_547 : decode cX10_init 547 = .ok (.dup, 1) := by decide +kernel
theorem dX10_init_548 : decode cX10_init 548 = .ok (.bipush 16, 2) := by decide +kernel
theorem dX10_init_550 : decode cX10_init 550 = .ok (.iconst 2, 1) := by decide +kernel
theorem dX10_init_551 : decode cX10_init 551 = .ok (.bastore, 1) := by decide +kernel
theorem dX10_init_552 : decode cX10_init 552 = .ok (.dup, 1) := by decide +kernel
theorem dX10_init_553 : decode cX10_init 553 = .ok (.bipush 17, 2) := by decide +kernel
theorem dX10_init_555 : decode cX10_init 555 = .ok (.bipush (-100), 2) := by decide +kernel
theorem dX10_init_557 : decode cX10_init 557 = .ok (.bastore, 1) := by decide +kernel
theorem dX10_init_558 : decode cX10_init 558 = .ok (.dup, 1) := by decide +kernel
theorem dX10_init_559 : decode cX10_init 559 = .ok (.bipush 18, 2) := by decide +kernel
theorem dX10_init_561 : decode cX10_init 561 = .ok (.bipush (-127), 2) := by decide +kernel
theorem dX10_init_563 : decode cX10_init 563 = .ok (.bastore, 1) := by decide +kernel
theorem dX10_init_564 : decode cX10_init 564 = .ok (.putfield 52, 3) := by decide +kernel
theorem dX10_init_567 : decode cX10_init 567 = .ok (.aload_n 0, 1) := by decide +kernel
theorem dX10_init_568 : decode cX10_init 568 = .ok (.bipush 8, 2) := by decide +kernel
theorem dX10_init_570 : decode cX10_init 570 = .ok (.newarray .byte, 2) := by decide +kernel
theorem dX10_init_572 : decode cX10_init 572 = .ok (.dup, 1) := by decide +kernel
theorem dX10_init_573 : decode cX10_init 573 = .ok (.iconst 0, 1) := by decide +kernel
theorem dX10_init_574 : decode cX10_init 574 = .ok (.bipush (-122), 2) := by decide +kernel
theorem dX10_init_576 : decode cX10_init 576 = .ok (.bastore, 1) := by decide +kernel
theorem dX10_init_577 : decode cX10_init 577 = .ok (.dup, 1) := by decide +kernel
theorem dX10_init_578 : decode cX10_init 578 = .ok (.iconst 1, 1) := by decide +kernel
theorem dX10_init_579 : decode cX10_init 579 = .ok (.bipush (-122), 2) := by decide +kernel
theorem dX10_init_581 : decode cX10_init 581 = .ok (.bastore, 1) := by decide +kernel
theorem dX10_init_582 : decode cX10_init 582 = .ok (.dup, 1) := by decide +kernel
theorem dX10_init_583 : decode cX10_init 583 = .ok (.iconst 2, 1) := by decide +kernel
theorem dX10_init_584 : decode cX10_init 584 = .ok (.bipush 65, 2) := by decide +kernel
theorem dX10_init_586 : decode cX10_init 586 = .ok (.bastore, 1) := by decide +kernel
theorem dX10_init_587 : decode cX10_init 587 = .ok (.dup, 1) := by decide +kernel
theorem dX10_init_588 : decode cX10_init 588 = .ok (.iconst 3, 1) := by decide +kernel
theorem dX10_init_589 : decode cX10_init 589 = .ok (.bipush 95, 2) := by decide +kernel
theorem dX10_init_591 : decode cX10_init 591 = .ok (.bastore, 1) := by decide +kernel
theorem dX10_init_592 : decode cX10_init 592 = .ok (.dup, 1) := by decide +kernel
theorem dX10_init_593 : decode cX10_init 593 = .ok (.iconst 4, 1) := by decide +kernel
theorem dX10_init_594 : decode cX10_init 594 = .ok (.bipush 79, 2) := by decide +kernel
theorem dX10_init_596 : decode cX10_init 596 = .ok (.bastore, 1) := by decide +kernel
theorem dX10_init_597 : decode cX10_init 597 = .ok (.dup, 1) := by decide +kernel
theorem dX10_init_598 : decode cX10_init 598 = .ok (.iconst 5, 1) := by decide +kernel
theorem dX10_init_599 : decode cX10_init 599 = .ok (.bipush 80, 2) := by decide +kernel
theorem dX10_init_601 : decode cX10_init 601 = .ok (.bastore, 1) := by decide +kernel
theorem dX10_init_602 : decode cX10_init 602 = .ok (.dup, 1) := by decide +kernel
theorem dX10_init_603 : decode cX10_init 603 = .ok (.bipush 6, 2) := by decide +kernel
theorem dX10_init_605 : decode cX10_init 605 = .ok (.bipush 85, 2) := by decide +kernel
theorem dX10_init_607 : decode cX10_init 607 = .ok (.bastore, 1) := by decide +kernel
theorem dX10_init_608 : decode cX10_init 608 = .ok (.dup, 1) := by decide +kernel
theorem dX10_init_609 : decode cX10_init 609 = .ok (.bipush 7, 2) := by decide +kernel
theorem dX10_init_611 : decode cX10_init 611 = .ok (.bipush 83, 2) := by decide +kernel
theorem dX10_init_613 : decode cX10_init 613 = .ok (.bastore, 1) := by decide +kernel
theorem dX10_init_614 : decode cX10_init 614 = .ok (.putfield 55, 3) := by decide +kernel
theorem dX10_init_617 : decode cX10_init 617 = .ok (.return_, 1) := by decide +kernel
set_option maxRecDepth 20000 in
theorem ggX10_feed_X10_four : GoodIn wsX10_feed wsX10_four := goodIn_r _ [6, 7, 1, 8, 9, 10, 11, 12, 13, 14, 15, 16, 17, 18, 19, 20, 21, 22, 23, 24, 25, 26, 27, 28, 29, 30, 31, 32, 33, 34, 35, 36, 37, 38, 39, 40, 41, 42, 43, 44, 45, 46, 47, 48, 49, 50, 51, 52, 53] (by decide +kernel) (by decide +kernel)
set_option maxRecDepth 20000 in
theorem gX10_feed_X10_four : GoodIn wsX10_feed (wsV RX10 61 RX10 yX10_four wsX10_four) := goodIn_app (goodIn_of _ (by decide +kernel)) ggX10_feed_X10_four
theorem dX10_feed_0 : decode cX10_feed 0 = .ok (.aload_n 0, 1) := by decide +kernel
theorem dX10_feed_1 : decode cX10_feed 1 = .ok (.getfield 58, 3) := by decide +kernel
theorem dX10_feed_4 : decode cX10_feed 4 = .ok (.bipush 20, 2) := by decide +kernel
theorem dX10_feed_6 : decode cX10_feed 6 = .ok (.iadd, 1) := by decide +kernel
theorem dX10_feed_7 : decode cX10_feed 7 = .ok (.sipush 6000, 3) := by decide +kernel
theorem dX10_feed_10 : decode cX10_feed 10 = .ok (.if_icmp .le 5, 3) := by decide +kernel
theorem dX10_feed_13 : decode cX10_feed 13 = .ok (.iconst (-1), 1) := by decide +kernel
theorem dX10_feed_14 : decode cX10_feed 14 = .ok (.ireturn, 1) := by decide +kernel
theorem dX10_feed_15 : decode cX10_feed 15 = .ok (.aload_n 0, 1) := by decide +kernel
theorem dX10_feed_16 : decode cX10_feed 16 = .ok (.iload_n 1, 1) := by decide +kernel
theorem dX10_feed_17 : decode cX10_feed 17 = .ok (.invokevirtual 61, 3) := by decide +kernel
theorem dX10_feed_20 : decode cX10_feed 20 = .ok (.aload_n 0, 1) := by decide +kernel
theorem dX10_feed_21 : decode cX10_feed 21 = .ok (.iload_n 2, 1) := by decide +kernel
theorem dX10_feed_22 : decode cX10_feed 22 = .ok (.invokevirtual 61, 3) := by decide +kernel
theorem dX10_feed_25 : decode cX10_feed 25 = .ok (.aload_n 0, 1) := by decide +kernel
theorem dX10_feed_26 : decode cX10_feed 26 = .ok (.iload_n 3, 1) := by decide +kernel
theorem dX10_feed_27 : decode cX10_feed 27 = .ok (.invokevirtual 61, 3) := by decide +kernel
theorem dX10_feed_30 : decode cX10_feed 30 = .ok (.aload_n 0, 1) := by decide +kernel
theorem dX10_feed_31 : decode cX10_feed 31 = .ok (.iload 4, 2) := by decide +kernel
theorem dX10_feed_33 : decode cX10_feed 33 = .ok (.invokevirtual 61, 3) := by decide +kernel
theorem dX10_feed_36 : decode cX10_feed 36 = .ok (.aload_n 0, 1) := by decide +kernel
theorem dX10_feed_37 : decode cX10_feed 37 = .ok (.iload 5, 2) := by decide +kernel
theorem dX10_feed_39 : decode cX10_feed 39 = .ok (.invokevirtual 61, 3) := by decide +kernel
theorem dX10_feed_42 : decode cX10_feed 42 = .ok (.aload_n 0, 1) := by decide +kernel
theorem dX10_feed_43 : decode cX10_feed 43 = .ok (.getfield 58, 3) := by decide +kernel
theorem dX10_feed_46 : decode cX10_feed 46 = .ok (.ireturn, 1) := by decide +kernel
theorem dX10_four_0 : decode cX10_four 0 = .ok (.bipush 24, 2) := by decide +kernel
theorem dX10_four_2 : decode cX10_four 2 = .ok (.istore_n 2, 1) := by decide +kernel
theorem dX10_four_3 : decode cX10_four 3 = .ok (.iload_n 2, 1) := by decide +kernel
theorem dX10_four_4 : decode cX10_four 4 = .ok (.ifCond .lt 32, 3) := by decide +kernel
theorem dX10_four_7 : decode cX10_four 7 = .ok (.aload_n 0, 1) := by decide +kernel
theorem dX10_four_8 : decode cX10_four 8 = .ok (.getfield 7, 3) := by decide +kernel
theorem dX10_four_11 : decode cX10_four 11 = .ok (.aload_n 0, 1) := by decide +kernel
theorem dX10_four_12 : decode cX10_four 12 = .ok (.getfield 58, 3) := by decide +kernel
theorem dX10_four_15 : decode cX10_four 15 = .ok (.iload_n 1, 1) := by decide +kernel
theorem dX10_four_16 : decode cX10_four 16 = .ok (.iload_n 2, 1) := by decide +kernel
theorem dX10_four_17 : decode cX10_four 17 = .ok (.ishr, 1) := by decide +kernel
theorem dX10_four_18 : decode cX10_four 18 = .ok (.i2b, 1) := by decide +kernel
theorem dX10_four_19 : decode cX10_four 19 = .ok (.bastore, 1) := by decide +kernel
theorem dX10_four_20 : decode cX10_four 20 = .ok (.aload_n 0, 1) := by decide +kernel
theorem dX10_four_21 : decode cX10_four 21 = .ok (.dup, 1) := by decide +kernel
theorem dX10_four_22 : decode cX10_four 22 = .ok (.getfield 58, 3) := by decide +kernel
theorem dX10_four_25 : decode cX10_four 25 = .ok (.iconst 1, 1) := by decide +kernel
theorem dX10_four_26 : decode cX10_four 26 = .ok (.iadd, 1) := by decide +kernel
theorem dX10_four_27 : decode cX10_four 27 = .ok (.putfield 58, 3) := by decide +kernel
theorem dX10_four_30 : decode cX10_four 30 = .ok (.iinc 2 (-8), 3) := by decide +kernel
theorem dX10_four_33 : decode cX10_four 33 = .ok (.goto (-30), 3) := by decide +kernel
theorem dX10_four_36 : decode cX10_four 36 = .ok (.return_, 1) := by decide +kernel
theorem dX10_at_0 : decode cX10_at 0 = .ok (.aload_n 0, 1) := by decide +kernel
theorem dX10_at_1 : decode cX10_at 1 = .ok (.getfield 7, 3) := by decide +kernel
theorem dX10_at_4 : decode cX10_at 4 = .ok (.iload_n 1, 1) := by decide +kernel
theorem dX10_at_5 : decode cX10_at 5 = .ok (.baload, 1) := by decide +kernel
theorem dX10_at_6 : decode cX10_at 6 = .ok (.sipush 255, 3) := by decide +kernel
theorem dX10_at_9 : decode cX10_at 9 = .ok (.iand, 1) := by decide +kernel
theorem dX10_at_10 : decode cX10_at 10 = .ok (.ireturn, 1) := by decide +kernel
theorem dX10_packet_0 : decode cX10_packet 0 = .ok (.iload_n 1, 1) := by decide +kernel
theorem dX10_packet_1 : decode cX10_packet 1 = .ok (.ifCond .lt 27, 3) := by decide +kernel
theorem dX10_packet_4 : decode cX10_packet 4 = .ok (.iload_n 1, 1) := by decide +kernel
theorem dX10_packet_5 : decode cX10_packet 5 = .ok (.aload_n 0, 1) := by decide +kernel
theorem dX10_packet_6 : decode cX10_packet 6 = .ok (.getfield 58, 3) := by decide +kernel
theorem dX10_packet_9 : decode cX10_packet 9 = .ok (.if_icmp .gt 19, 3) := by decide +kernel
theorem dX10_packet_12 : decode cX10_packet 12 = .ok (.lload_n 2, 1) := by decide +kernel
theorem dX10_packet_13 : decode cX10_packet 13 = .ok (.ldc2_w 65, 3) := by decide +kernel
theorem dX10_packet_16 : decode cX10_packet 16 = .ok (.lcmp, 1) := by decide +kernel
theorem dX10_packet_17 : decode cX10_packet 17 = .ok (.ifCond .lt 11, 3) := by decide +kernel
theorem dX10_packet_20 : decode cX10_packet 20 = .ok (.lload_n 2, 1) := by decide +kernel
theorem dX10_packet_21 : decode cX10_packet 21 = .ok (.ldc2_w 67, 3) := by decide +kernel
theorem dX10_packet_24 : decode cX10_packet 24 = .ok (.lcmp, 1) := by decide +kernel
theorem dX10_packet_25 : decode cX10_packet 25 = .ok (.ifCond .le 6, 3) := by decide +kernel
theorem dX10_packet_28 : decode cX10_packet 28 = .ok (.bipush (-2), 2) := by decide +kernel
theorem dX10_packet_30 : decode cX10_packet 30 = .ok (.ireturn, 1) := by decide +kernel
theorem dX10_packet_31 : decode cX10_packet 31 = .ok (.aload_n 0, 1) := by decide +kernel
theorem dX10_packet_32 : decode cX10_packet 32 = .ok (.iconst 0, 1) := by decide +kernel
theorem dX10_packet_33 : decode cX10_packet 33 = .ok (.putfield 58, 3) := by decide +kernel
theorem dX10_packet_36 : decode cX10_packet 36 = .ok (.aload_n 0, 1) := by decide +kernel
theorem dX10_packet_37 : decode cX10_packet 37 = .ok (.getfield 69, 3) := by decide +kernel
theorem dX10_packet_40 : decode cX10_packet 40 = .ok (.bipush 64, 2) := by decide +kernel
theorem dX10_packet_42 : decode cX10_packet 42 = .ok (.if_icmp .eq 15, 3) := by decide +kernel
theorem dX10_packet_45 : decode cX10_packet 45 = .ok (.aload_n 0, 1) := by decide +kernel
theorem dX10_packet_46 : decode cX10_packet 46 = .ok (.getfield 72, 3) := by decide +kernel
theorem dX10_packet_49 : decode cX10_packet 49 = .ok (.iload_n 1, 1) := by decide +kernel
theorem dX10_packet_50 : decode cX10_packet 50 = .ok (.iadd, 1) := by decide +kernel
theorem dX10_packet_51 : decode cX10_packet 51 = .ok (.sipush 2400, 3) := by decide +kernel
theorem dX10_packet_54 : decode cX10_packet 54 = .ok (.if_icmp .le 5, 3) := by decide +kernel
theorem dX10_packet_57 : decode cX10_packet 57 = .ok (.iconst (-1), 1) := by decide +kernel
theorem dX10_packet_58 : decode cX10_packet 58 = .ok (.ireturn, 1) := by decide +kernel
theorem dX10_packet_59 : decode cX10_packet 59 = .ok (.iconst 0, 1) := by decide +kernel
theorem dX10_packet_60 : decode cX10_packet 60 = .ok (.istore 4, 2) := by decide +kernel
theorem dX10_packet_62 : decode cX10_packet 62 = .ok (.iload 4, 2) := by decide +kernel
theorem dX10_packet_64 : decode cX10_packet 64 = .ok (.iload_n 1, 1) := by decide +kernel
theorem dX10_packet_65 : decode cX10_packet 65 = .ok (.if_icmp .ge 28, 3) := by decide +kernel
theorem dX10_packet_68 : decode cX10_packet 68 = .ok (.aload_n 0, 1) := by decide +kernel
theorem dX10_packet_69 : decode cX10_packet 69 = .ok (.getfield 33, 3) := by decide +kernel
theorem dX10_packet_72 : decode cX10_packet 72 = .ok (.aload_n 0, 1) := by decide +kernel
theorem dX10_packet_73 : decode cX10_packet 73 = .ok (.getfield 72, 3) := by decide +kernel
theorem dX10_packet_76 : decode cX10_packet 76 = .ok (.iload 4, 2) := by decide +kernel
theorem dX10_packet_78 : decode cX10_packet 78 = .ok (.iadd, 1) := by decide +kernel
theorem dX10_packet_79 : decode cX10_packet 79 = .ok (.aload_n 0, 1) := by decide +kernel
theorem dX10_packet_80 : decode cX10_packet 80 = .ok (.getfield 7, 3) := by decide +kernel
theorem dX10_packet_83 : decode cX10_packet 83 = .ok (.iload 4, 2) := by decide +kernel
theorem dX10_packet_85 : decode cX10_packet 85 = .ok (.baload, 1) := by decide +kernel
theorem dX10_packet_86 : decode cX10_packet 86 = .ok (.bastore, 1) := by decide +kernel
theorem dX10_packet_87 : decode cX10_packet 87 = .ok (.iinc 4 1, 3) := by decide +kernel
theorem dX10_packet_90 : decode cX10_packet 90 = .ok (.goto (-28), 3) := by decide +kernel
theorem dX10_packet_93 : decode cX10_packet 93 = .ok (.aload_n 0, 1) := by decide +kernel
theorem dX10_packet_94 : decode cX10_packet 94 = .ok (.getfield 19, 3) := by decide +kernel
theorem dX10_packet_97 : decode cX10_packet 97 = .ok (.aload_n 0, 1) := by decide +kernel
theorem dX10_packet_98 : decode cX10_packet 98 = .ok (.getfield 69, 3) := by decide +kernel
theorem dX10_packet_101 : decode cX10_packet 101 = .ok (.iload_n 1, 1) := by decide +kernel
theorem dX10_packet_102 : decode cX10_packet 102 = .ok (.iastore, 1) := by decide +kernel
theorem dX10_packet_103 : decode cX10_packet 103 = .ok (.aload_n 0, 1) := by decide +kernel
theorem dX10_packet_104 : decode cX10_packet 104 = .ok (.getfield 26, 3) := by decide +kernel
theorem dX10_packet_107 : decode cX10_packet 107 = .ok (.aload_n 0, 1) := by decide +kernel
theorem dX10_packet_108 : decode cX10_packet 108 = .ok (.getfield 69, 3) := by decide +kernel
theorem dX10_packet_111 : decode cX10_packet 111 = .ok (.lload_n 2, 1) := by decide +kernel
theorem dX10_packet_112 : decode cX10_packet 112 = .ok (.lastore, 1) := by decide +kernel
theorem dX10_packet_113 : decode cX10_packet 113 = .ok (.aload_n 0, 1) := by decide +kernel
theorem dX10_packet_114 : decode cX10_packet 114 = .ok (.dup, 1) := by decide +kernel
theorem dX10_packet_115 : decode cX10_packet 115 = .ok (.getfield 69, 3) := by decide +kernel
theorem dX10_packet_118 : decode cX10_packet 118 = .ok (.iconst 1, 1) := by decide +kernel
theorem dX10_packet_119 : decode cX10_packet 119 = .ok (.iadd, 1) := by decide +kernel
theorem dX10_packet_120 : decode cX10_packet 120 = .ok (.putfield 69, 3) := by decide +kernel
theorem dX10_packet_123 : decode cX10_packet 123 = .ok (.aload_n 0, 1) := by decide +kernel
theorem dX10_packet_124 : decode cX10_packet 124 = .ok (.dup, 1) := by decide +kernel
theorem dX10_packet_125 : decode cX10_packet 125 = .ok (.getfield 72, 3) := by decide +kernel
theorem dX10_packet_128 : decode cX10_packet 128 = .ok (.iload_n 1, 1) := by decide +kernel
theorem dX10_packet_129 : decode cX10_packet 129 = .ok (.iadd, 1) := by decide +kernel
theorem dX10_packet_130 : decode cX10_packet 130 = .ok (.putfield 72, 3) := by decide +kernel
theorem dX10_packet_133 : decode cX10_packet 133 = .ok (.aload_n 0, 1) := by decide +kernel
theorem dX10_packet_134 : decode cX10_packet 134 = .ok (.getfield 69, 3) := by decide +kernel
theorem dX10_packet_137 : decode cX10_packet 137 = .ok (.ireturn, 1) := by decide +kernel
theorem dX10_clear_0 : decode cX10_clear 0 = .ok (.aload_n 0, 1) := by decide +kernel
theorem dX10_clear_1 : decode cX10_clear 1 = .ok (.getfield 69, 3) := by decide +kernel
theorem dX10_clear_4 : decode cX10_clear 4 = .ok (.istore_n 1, 1) := by decide +kernel
theorem dX10_clear_5 : decode cX10_clear 5 = .ok (.aload_n 0, 1) := by decide +kernel
theorem dX10_clear_6 : decode cX10_clear 6 = .ok (.iconst 0, 1) := by decide +kernel
theorem dX10_clear_7 : decode cX10_clear 7 = .ok (.putfield 69, 3) := by decide +kernel
theorem dX10_clear_10 : decode cX10_clear 10 = .ok (.aload_n 0, 1) := by decide +kernel
theorem dX10_clear_11 : decode cX10_clear 11 = .ok (.iconst 0, 1) := by decide +kernel
theorem dX10_clear_12 : decode cX10_clear 12 = .ok (.putfield 72, 3) := by decide +kernel
theorem dX10_clear_15 : decode cX10_clear 15 = .ok (.iload_n 1, 1) := by decide +kernel
theorem dX10_clear_16 : decode cX10_clear 16 = .ok (.ireturn, 1) := by decide +kernel
theorem dX10_timeOf_0 : decode cX10_timeOf 0 = .ok (.iload_n 1, 1) := by decide +kernel
theorem dX10_timeOf_1 : decode cX10_timeOf 1 = .ok (.istore_n 2, 1) := by decide +kernel
theorem dX10_timeOf_2 : decode cX10_timeOf 2 = .ok (.iload_n 2, 1) := by decide +kernel
theorem dX10_timeOf_3 : decode cX10_timeOf 3 = .ok (.ifCond .lt 22, 3) := by decide +kernel
theorem dX10_timeOf_6 : decode cX10_timeOf 6 = .ok (.aload_n 0, 1) := by decide +kernel
theorem dX10_timeOf_7 : decode cX10_timeOf 7 = .ok (.getfield 26, 3) := by decide +kernel
theorem dX10_timeOf_10 : decode cX10_timeOf 10 = .ok (.iload_n 2, 1) := by decide +kernel
theorem dX10_timeOf_11 : decode cX10_timeOf 11 = .ok (.laload, 1) := by decide +kernel
theorem dX10_timeOf_12 : decode cX10_timeOf 12 = .ok (.ldc2_w 65, 3) := by decide +kernel
theorem dX10_timeOf_15 : decode cX10_timeOf 15 = .ok (.lcmp, 1) := by decide +kernel
theorem dX10_timeOf_16 : decode cX10_timeOf 16 = .ok (.ifCond .ne 9, 3) := by decide +kernel
theorem dX10_timeOf_19 : decode cX10_timeOf 19 = .ok (.iinc 2 (-1), 3) := by decide +kernel
theorem dX10_timeOf_22 : decode cX10_timeOf 22 = .ok (.goto (-20), 3) := by decide +kernel
theorem dX10_timeOf_25 : decode cX10_timeOf 25 = .ok (.iload_n 2, 1) := by decide +kernel
theorem dX10_timeOf_26 : decode cX10_timeOf 26 = .ok (.ifCond .ge 7, 3) := by decide +kernel
theorem dX10_timeOf_29 : decode cX10_timeOf 29 = .ok (.lconst 0, 1) := by decide +kernel
theorem dX10_timeOf_30 : decode cX10_timeOf 30 = .ok (.goto 9, 3) := by decide +kernel
theorem dX10_timeOf_33 : decode cX10_timeOf 33 = .ok (.aload_n 0, 1) := by decide +kernel
theorem dX10_timeOf_34 : decode cX10_timeOf 34 = .ok (.getfield 26, 3) := by decide +kernel
theorem dX10_timeOf_37 : decode cX10_timeOf 37 = .ok (.iload_n 2, 1) := by decide +kernel
theorem dX10_timeOf_38 : decode cX10_timeOf 38 = .ok (.laload, 1) := by decide +kernel
theorem dX10_timeOf_39 : decode cX10_timeOf 39 = .ok (.lreturn, 1) := by decide +kernel
theorem dX10_takeList_0 : decode cX10_takeList 0 = .ok (.aload_n 0, 1) := by decide +kernel
theorem dX10_takeList_1 : decode cX10_takeList 1 = .ok (.aload_n 0, 1) := by decide +kernel
theorem dX10_takeList_2 : decode cX10_takeList 2 = .ok (.getfield 75, 3) := by decide +kernel
theorem dX10_takeList_5 : decode cX10_takeList 5 = .ok (.putfield 69, 3) := by decide +kernel
theorem dX10_takeList_8 : decode cX10_takeList 8 = .ok (.aload_n 0, 1) := by decide +kernel
theorem dX10_takeList_9 : decode cX10_takeList 9 = .ok (.aload_n 0, 1) := by decide +kernel
theorem dX10_takeList_10 : decode cX10_takeList 10 = .ok (.getfield 78, 3) := by decide +kernel
theorem dX10_takeList_13 : decode cX10_takeList 13 = .ok (.putfield 72, 3) := by decide +kernel
theorem dX10_takeList_16 : decode cX10_takeList 16 = .ok (.iconst 0, 1) := by decide +kernel
theorem dX10_takeList_17 : decode cX10_takeList 17 = .ok (.istore_n 1, 1) := by decide +kernel
theorem dX10_takeList_18 : decode cX10_takeList 18 = .ok (.iload_n 1, 1) := by decide +kernel
theorem dX10_takeList_19 : decode cX10_takeList 19 = .ok (.aload_n 0, 1) := by decide +kernel
theorem dX10_takeList_20 : decode cX10_takeList 20 = .ok (.getfield 69, 3) := by decide +kernel
theorem dX10_takeList_23 : decode cX10_takeList 23 = .ok (.if_icmp .ge 33, 3) := by decide +kernel
theorem dX10_takeList_26 : decode cX10_takeList 26 = .ok (.aload_n 0, 1) := by decide +kernel
theorem dX10_takeList_27 : decode cX10_takeList 27 = .ok (.getfield 19, 3) := by decide +kernel
theorem dX10_takeList_30 : decode cX10_takeList 30 = .ok (.iload_n 1, 1) := by decide +kernel
theorem dX10_takeList_31 : decode cX10_takeList 31 = .ok (.aload_n 0, 1) := by decide +kernel
theorem dX10_takeList_32 : decode cX10_takeList 32 = .ok (.getfield 23, 3) := by decide +kernel
theorem dX10_takeList_35 : decode cX10_takeList 35 = .ok (.iload_n 1, 1) := by decide +kernel
theorem dX10_takeList_36 : decode cX10_takeList 36 = .ok (.iaload, 1) := by decide +kernel
theorem dX10_takeList_37 : decode cX10_takeList 37 = .ok (.iastore, 1) := by decide +kernel
theorem dX10_takeList_38 : decode cX10_takeList 38 = .ok (.aload_n 0, 1) := by decide +kernel
theorem dX10_takeList_39 : decode cX10_takeList 39 = .ok (.getfield 26, 3) := by decide +kernel
theorem dX10_takeList_42 : decode cX10_takeList 42 = .ok (.iload_n 1, 1) := by decide +kernel
theorem dX10_takeList_43 : decode cX10_takeList 43 = .ok (.aload_n 0, 1) := by decide +kernel
theorem dX10_takeList_44 : decode cX10_takeList 44 = .ok (.getfield 30, 3) := by decide +kernel
theorem dX10_takeList_47 : decode cX10_takeList 47 = .ok (.iload_n 1, 1) := by decide +kernel
theorem dX10_takeList_48 : decode cX10_takeList 48 = .ok (.laload, 1) := by decide +kernel
theorem dX10_takeList_49 : decode cX10_takeList 49 = .ok (.lastore, 1) := by decide +kernel
theorem dX10_takeList_50 : decode cX10_takeList 50 = .ok (.iinc 1 1, 3) := by decide +kernel
theorem dX10_takeList_53 : decode cX10_takeList 53 = .ok (.goto (-35), 3) := by decide +kernel
theorem dX10_takeList_56 : decode cX10_takeList 56 = .ok (.iconst 0, 1) := by decide +kernel
theorem dX10_takeList_57 : decode cX10_takeList 57 = .ok (.istore_n 1, 1) := by decide +kernel
theorem dX10_takeList_58 : decode cX10_takeList 58 = .ok (.iload_n 1, 1) := by decide +kernel
theorem dX10_takeList_59 : decode cX10_takeList 59 = .ok (.aload_n 0, 1) := by decide +kernel
theorem dX10_takeList_60 : decode cX10_takeList 60 = .ok (.getfield 72, 3) := by decide +kernel
theorem dX10_takeList_63 : decode cX10_takeList 63 = .ok (.if_icmp .ge 21, 3) := by decide +kernel
theorem dX10_takeList_66 : decode cX10_takeList 66 = .ok (.aload_n 0, 1) := by decide +kernel
theorem dX10_takeList_67 : decode cX10_takeList 67 = .ok (.getfield 33, 3) := by decide +kernel
theorem dX10_takeList_70 : decode cX10_takeList 70 = .ok (.iload_n 1, 1) := by decide +kernel
theorem dX10_takeList_71 : decode cX10_takeList 71 = .ok (.aload_n 0, 1) := by decide +kernel
theorem dX10_takeList_72 : decode cX10_takeList 72 = .ok (.getfield 36, 3) := by decide +kernel
theorem dX10_takeList_75 : decode cX10_takeList 75 = .ok (.iload_n 1, 1) := by decide +kernel
theorem dX10_takeList_76 : decode cX10_takeList 76 = .ok (.baload, 1) := by decide +kernel
theorem dX10_takeList_77 : decode cX10_takeList 77 = .ok (.bastore, 1) := by decide +kernel
theorem dX10_takeList_78 : decode cX10_takeList 78 = .ok (.iinc 1 1, 3) := by decide +kernel
theorem dX10_takeList_81 : decode cX10_takeList 81 = .ok (.goto (-23), 3) := by decide +kernel
theorem dX10_takeList_84 : decode cX10_takeList 84 = .ok (.return_, 1) := by decide +kernel
theorem dX10_put_0 : decode cX10_put 0 = .ok (.aload_n 0, 1) := by decide +kernel
theorem dX10_put_1 : decode cX10_put 1 = .ok (.getfield 81, 3) := by decide +kernel
theorem dX10_put_4 : decode cX10_put 4 = .ok (.sipush 6000, 3) := by decide +kernel
theorem dX10_put_7 : decode cX10_put 7 = .ok (.if_icmp .ne 9, 3) := by decide +kernel
theorem dX10_put_10 : decode cX10_put 10 = .ok (.aload_n 0, 1) := by decide +kernel
theorem dX10_put_11 : decode cX10_put 11 = .ok (.iconst 1, 1) := by decide +kernel
theorem dX10_put_12 : decode cX10_put 12 = .ok (.putfield 84, 3) := by decide +kernel
theorem dX10_put_15 : decode cX10_put 15 = .ok (.return_, 1) := by decide +kernel
theorem dX10_put_16 : decode cX10_put 16 = .ok (.aload_n 0, 1) := by decide +kernel
theorem dX10_put_17 : decode cX10_put 17 = .ok (.getfield 16, 3) := by decide +kernel
theorem dX10_put_20 : decode cX10_put 20 = .ok (.aload_n 0, 1) := by decide +kernel
theorem dX10_put_21 : decode cX10_put 21 = .ok (.getfield 81, 3) := by decide +kernel
theorem dX10_put_24 : decode cX10_put 24 = .ok (.iload_n 1, 1) := by decide +kernel
theorem dX10_put_25 : decode cX10_put 25 = .ok (.i2b, 1) := by decide +kernel
theorem dX10_put_26 : decode cX10_put 26 = .ok (.bastore, 1) := by decide +kernel
theorem dX10_put_27 : decode cX10_put 27 = .ok (.aload_n 0, 1) := by decide +kernel
theorem dX10_put_28 : decode cX10_put 28 = .ok (.dup, 1) := by decide +kernel
theorem dX10_put_29 : decode cX10_put 29 = .ok (.getfield 81, 3) := by decide +kernel
theorem dX10_put_32 : decode cX10_put 32 = .ok (.iconst 1, 1) := by decide +kernel
theorem dX10_put_33 : decode cX10_put 33 = .ok (.iadd, 1) := by decide +kernel
theorem dX10_put_34 : decode cX10_put 34 = .ok (.putfield 81, 3) := by decide +kernel
theorem dX10_put_37 : decode cX10_put 37 = .ok (.return_, 1) := by decide +kernel
set_option maxRecDepth 20000 in
theorem ggX10_putLow_X10_put : GoodIn wsX10_putLow wsX10_put := goodIn_r _ [5, 6, 7, 8, 9, 10, 11, 12, 13, 14, 15, 16, 17, 18, 19, 20, 21, 22, 23, 24, 25, 26, 27, 28, 29, 30, 31, 32, 33, 34, 35, 36, 37, 38, 39, 40, 41, 42, 43, 44, 45, 46, 47, 48, 49, 50, 51, 52, 53, 54] (by decide +kernel) (by decide +kernel)
set_option maxRecDepth 20000 in
theorem gX10_putLow_X10_put : GoodIn wsX10_putLow (wsV RX10 88 RX10 yX10_put wsX10_put) := goodIn_app (goodIn_of _ (by decide +kernel)) ggX10_putLow_X10_put
theorem dX10_putLow_0 : decode cX10_putLow 0 = .ok (.iconst 0, 1) := by decide +kernel
theorem dX10_putLow_1 : decode cX10_putLow 1 = .ok (.istore 4, 2) := by decide +kernel
theorem dX10_putLow_3 : decode cX10_putLow 3 = .ok (.iload 4, 2) := by decide +kernel
theorem dX10_putLow_5 : decode cX10_putLow 5 = .ok (.iload_n 3, 1) := by decide +kernel
theorem dX10_putLow_6 : decode cX10_putLow 6 = .ok (.if_icmp .ge 21, 3) := by decide +kernel
theorem dX10_putLow_9 : decode cX10_putLow 9 = .ok (.aload_n 0, 1) := by decide +kernel
theorem dX10_putLow_10 : decode cX10_putLow 10 = .ok (.lload_n 1, 1) := by decide +kernel
theorem dX10_putLow_11 : decode cX10_putLow 11 = .ok (.bipush 8, 2) := by decide +kernel
theorem dX10_putLow_13 : decode cX10_putLow 13 = .ok (.iload 4, 2) := by decide +kernel
theorem dX10_putLow_15 : decode cX10_putLow 15 = .ok (.imul, 1) := by decide +kernel
theorem dX10_putLow_16 : decode cX10_putLow 16 = .ok (.lshr, 1) := by decide +kernel
theorem dX10_putLow_17 : decode cX10_putLow 17 = .ok (.l2i, 1) := by decide +kernel
theorem dX10_putLow_18 : decode cX10_putLow 18 = .ok (.invokevirtual 88, 3) := by decide +kernel
theorem dX10_putLow_21 : decode cX10_putLow 21 = .ok (.iinc 4 1, 3) := by decide +kernel
theorem dX10_putLow_24 : decode cX10_putLow 24 = .ok (.goto (-21), 3) := by decide +kernel
theorem dX10_putLow_27 : decode cX10_putLow 27 = .ok (.return_, 1) := by decide +kernel
set_option maxRecDepth 20000 in
theorem ggX10_putHigh_X10_put : GoodIn wsX10_putHigh wsX10_put := goodIn_r _ [5, 6, 7, 8, 9, 10, 11, 12, 13, 14, 15, 16, 17, 18, 19, 20, 21, 22, 23, 24, 25, 26, 27, 28, 29, 30, 31, 32, 33, 34, 35, 36, 37, 38, 39, 40, 41, 42, 43, 44, 45, 46, 47, 48, 49, 50, 51, 52, 53, 54] (by decide +kernel) (by decide +kernel)
set_option maxRecDepth 20000 in
theorem gX10_putHigh_X10_put : GoodIn wsX10_putHigh (wsV RX10 88 RX10 yX10_put wsX10_put) := goodIn_app (goodIn_of _ (by decide +kernel)) ggX10_putHigh_X10_put
theorem dX10_putHigh_0 : decode cX10_putHigh 0 = .ok (.iload_n 3, 1) := by decide +kernel
theorem dX10_putHigh_1 : decode cX10_putHigh 1 = .ok (.iconst 1, 1) := by decide +kernel
theorem dX10_putHigh_2 : decode cX10_putHigh 2 = .ok (.isub, 1) := by decide +kernel
theorem dX10_putHigh_3 : decode cX10_putHigh 3 = .ok (.istore 4, 2) := by decide +kernel
theorem dX10_putHigh_5 : decode cX10_putHigh 5 = .ok (.iload 4, 2) := by decide +kernel
theorem dX10_putHigh_7 : decode cX10_putHigh 7 = .ok (.ifCond .lt 21, 3) := by decide +kernel
theorem dX10_putHigh_10 : decode cX10_putHigh 10 = .ok (.aload_n 0, 1) := by decide +kernel
theorem dX10_putHigh_11 : decode cX10_putHigh 11 = .ok (.lload_n 1, 1) := by decide +kernel
theorem dX10_putHigh_12 : decode cX10_putHigh 12 = .ok (.bipush 8, 2) := by decide +kernel
theorem dX10_putHigh_14 : decode cX10_putHigh 14 = .ok (.iload 4, 2) := by decide +kernel
theorem dX10_putHigh_16 : decode cX10_putHigh 16 = .ok (.imul, 1) := by decide +kernel
theorem dX10_putHigh_17 : decode cX10_putHigh 17 = .ok (.lshr, 1) := by decide +kernel
theorem dX10_putHigh_18 : decode cX10_putHigh 18 = .ok (.l2i, 1) := by decide +kernel
theorem dX10_putHigh_19 : decode cX10_putHigh 19 = .ok (.invokevirtual 88, 3) := by decide +kernel
theorem dX10_putHigh_22 : decode cX10_putHigh 22 = .ok (.iinc 4 (-1), 3) := by decide +kernel
theorem dX10_putHigh_25 : decode cX10_putHigh 25 = .ok (.goto (-20), 3) := by decide +kernel
theorem dX10_putHigh_28 : decode cX10_putHigh 28 = .ok (.return_, 1) := by decide +kernel
set_option maxRecDepth 20000 in
theorem ggX10_putRow_X10_put : GoodIn wsX10_putRow wsX10_put := goodIn_r _ [5, 6, 7, 8, 9, 10, 11, 12, 13, 14, 15, 16, 17, 18, 19, 20, 21, 22, 23, 24, 25, 26, 27, 28, 29, 30, 31, 32, 33, 34, 35, 36, 37, 38, 39, 40, 41, 42, 43, 44, 45, 46, 47, 48, 49, 50, 51, 52, 53, 54] (by decide +kernel) (by decide +kernel)
set_option maxRecDepth 20000 in
theorem gX10_putRow_X10_put : GoodIn wsX10_putRow (wsV RX10 88 RX10 yX10_put wsX10_put) := goodIn_app (goodIn_of _ (by decide +kernel)) ggX10_putRow_X10_put
theorem dX10_putRow_0 : decode cX10_putRow 0 = .ok (.iconst 0, 1) := by decide +kernel
theorem dX10_putRow_1 : decode cX10_putRow 1 = .ok (.istore_n 2, 1) := by decide +kernel
theorem dX10_putRow_2 : decode cX10_putRow 2 = .ok (.iload_n 2, 1) := by decide +kernel
theorem dX10_putRow_3 : decode cX10_putRow 3 = .ok (.aload_n 1, 1) := by decide +kernel
theorem dX10_putRow_4 : decode cX10_putRow 4 = .ok (.arraylength, 1) := by decide +kernel
theorem dX10_putRow_5 : decode cX10_putRow 5 = .ok (.if_icmp .ge 16, 3) := by decide +kernel
theorem dX10_putRow_8 : decode cX10_putRow 8 = .ok (.aload_n 0, 1) := by decide +kernel
theorem dX10_putRow_9 : decode cX10_putRow 9 = .ok (.aload_n 1, 1) := by decide +kernel
theorem dX10_putRow_10 : decode cX10_putRow 10 = .ok (.iload_n 2, 1) := by decide +kernel
theorem dX10_putRow_11 : decode cX10_putRow 11 = .ok (.baload, 1) := by decide +kernel
theorem dX10_putRow_12 : decode cX10_putRow 12 = .ok (.invokevirtual 88, 3) := by decide +kernel
theorem dX10_putRow_15 : decode cX10_putRow 15 = .ok (.iinc 2 1, 3) := by decide +kernel
theorem dX10_putRow_18 : decode cX10_putRow 18 = .ok (.goto (-16), 3) := by decide +kernel
theorem dX10_putRow_21 : decode cX10_putRow 21 = .ok (.return_, 1) := by decide +kernel
theorem dX10_drawn_0 : decode cX10_drawn 0 = .ok (.aload_n 0, 1) := by decide +kernel
theorem dX10_drawn_1 : decode cX10_drawn 1 = .ok (.getfield 84, 3) := by decide +kernel
theorem dX10_drawn_4 : decode cX10_drawn 4 = .ok (.ifCond .eq 5, 3) := by decide +kernel
theorem dX10_drawn_7 : decode cX10_drawn 7 = .ok (.iconst (-1), 1) := by decide +kernel
theorem dX10_drawn_8 : decode cX10_drawn 8 = .ok (.ireturn, 1) := by decide +kernel
theorem dX10_drawn_9 : decode cX10_drawn 9 = .ok (.iconst 0, 1) := by decide +kernel
theorem dX10_drawn_10 : decode cX10_drawn 10 = .ok (.istore_n 1, 1) := by decide +kernel
theorem dX10_drawn_11 : decode cX10_drawn 11 = .ok (.iload_n 1, 1) := by decide +kernel
theorem dX10_drawn_12 : decode cX10_drawn 12 = .ok (.aload_n 0, 1) := by decide +kernel
theorem dX10_drawn_13 : decode cX10_drawn 13 = .ok (.getfield 81, 3) := by decide +kernel
theorem dX10_drawn_16 : decode cX10_drawn 16 = .ok (.if_icmp .ge 21, 3) := by decide +kernel
theorem dX10_drawn_19 : decode cX10_drawn 19 = .ok (.aload_n 0, 1) := by decide +kernel
theorem dX10_drawn_20 : decode cX10_drawn 20 = .ok (.getfield 13, 3) := by decide +kernel
theorem dX10_drawn_23 : decode cX10_drawn 23 = .ok (.iload_n 1, 1) := by decide +kernel
theorem dX10_drawn_24 : decode cX10_drawn 24 = .ok (.aload_n 0, 1) := by decide +kernel
theorem dX10_drawn_25 : decode cX10_drawn 25 = .ok (.getfield 16, 3) := by decide +kernel
theorem dX10_drawn_28 : decode cX10_drawn 28 = .ok (.iload_n 1, 1) := by decide +kernel
theorem dX10_drawn_29 : decode cX10_drawn 29 = .ok (.baload, 1) := by decide +kernel
theorem dX10_drawn_30 : decode cX10_drawn 30 = .ok (.bastore, 1) := by decide +kernel
theorem dX10_drawn_31 : decode cX10_drawn 31 = .ok (.iinc 1 1, 3) := by decide +kernel
theorem dX10_drawn_34 : decode cX10_drawn 34 = .ok (.goto (-23), 3) := by decide +kernel
theorem dX10_drawn_37 : decode cX10_drawn 37 = .ok (.aload_n 0, 1) := by decide +kernel
theorem dX10_drawn_38 : decode cX10_drawn 38 = .ok (.aload_n 0, 1) := by decide +kernel
theorem dX10_drawn_39 : decode cX10_drawn 39 = .ok (.getfield 81, 3) := by decide +kernel
theorem dX10_drawn_42 : decode cX10_drawn 42 = .ok (.putfield 91, 3) := by decide +kernel
theorem dX10_drawn_45 : decode cX10_drawn 45 = .ok (.aload_n 0, 1) := by decide +kernel
theorem dX10_drawn_46 : decode cX10_drawn 46 = .ok (.getfield 91, 3) := by decide +kernel
theorem dX10_drawn_49 : decode cX10_drawn 49 = .ok (.ireturn, 1) := by decide +kernel
theorem dX10_sumOf_0 : decode cX10_sumOf 0 = .ok (.iconst 0, 1) := by decide +kernel
theorem dX10_sumOf_1 : decode cX10_sumOf 1 = .ok (.istore_n 3, 1) := by decide +kernel
theorem dX10_sumOf_2 : decode cX10_sumOf 2 = .ok (.iconst 0, 1) := by decide +kernel
theorem dX10_sumOf_3 : decode cX10_sumOf 3 = .ok (.istore 4, 2) := by decide +kernel
theorem dX10_sumOf_5 : decode cX10_sumOf 5 = .ok (.iload 4, 2) := by decide +kernel
theorem dX10_sumOf_7 : decode cX10_sumOf 7 = .ok (.iload_n 2, 1) := by decide +kernel
theorem dX10_sumOf_8 : decode cX10_sumOf 8 = .ok (.if_icmp .ge 80, 3) := by decide +kernel
theorem dX10_sumOf_11 : decode cX10_sumOf 11 = .ok (.iload 4, 2) := by decide +kernel
theorem dX10_sumOf_13 : decode cX10_sumOf 13 = .ok (.bipush 22, 2) := by decide +kernel
theorem dX10_sumOf_15 : decode cX10_sumOf 15 = .ok (.if_icmp .lt 14, 3) := by decide +kernel
theorem dX10_sumOf_18 : decode cX10_sumOf 18 = .ok (.iload 4, 2) := by decide +kernel
theorem dX10_sumOf_20 : decode cX10_sumOf 20 = .ok (.bipush 26, 2) := by decide +kernel
theorem dX10_sumOf_22 : decode cX10_sumOf 22 = .ok (.if_icmp .ge 7, 3) := by decide +kernel
theorem dX10_sumOf_25 : decode cX10_sumOf 25 = .ok (.iconst 0, 1) := by decide +kernel
theorem dX10_sumOf_26 : decode cX10_sumOf 26 = .ok (.goto 13, 3) := by decide +kernel
theorem dX10_sumOf_29 : decode cX10_sumOf 29 = .ok (.aload_n 0, 1) := by decide +kernel
theorem dX10_sumOf_30 : decode cX10_sumOf 30 = .ok (.iload_n 1, 1) := by decide +kernel
theorem dX10_sumOf_31 : decode cX10_sumOf 31 = .ok (.iload 4, 2) := by decide +kernel
theorem dX10_sumOf_33 : decode cX10_sumOf 33 = .ok (.iadd, 1) := by decide +kernel
theorem dX10_sumOf_34 : decode cX10_sumOf 34 = .ok (.baload, 1) := by decide +kernel
theorem dX10_sumOf_35 : decode cX10_sumOf 35 = .ok (.sipush 255, 3) := by decide +kernel
theorem dX10_sumOf_38 : decode cX10_sumOf 38 = .ok (.iand, 1) := by decide +kernel
theorem dX10_sumOf_39 : decode cX10_sumOf 39 = .ok (.istore 5, 2) := by decide +kernel
theorem dX10_sumOf_41 : decode cX10_sumOf 41 = .ok (.iload_n 3, 1) := by decide +kernel
theorem dX10_sumOf_42 : decode cX10_sumOf 42 = .ok (.iload 5, 2) := by decide +kernel
theorem dX10_sumOf_44 : decode cX10_sumOf 44 = .ok (.bipush 24, 2) := by decide +kernel
theorem dX10_sumOf_46 : decode cX10_sumOf 46 = .ok (.ishl, 1) := by decide +kernel
theorem dX10_sumOf_47 : decode cX10_sumOf 47 = .ok (.ixor, 1) := by decide +kernel
theorem dX10_sumOf_48 : decode cX10_sumOf 48 = .ok (.istore_n 3, 1) := by decide +kernel
theorem dX10_sumOf_49 : decode cX10_sumOf 49 = .ok (.iconst 0, 1) := by decide +kernel
theorem dX10_sumOf_50 : decode cX10_sumOf 50 = .ok (.istore 6, 2) := by decide +kernel
theorem dX10_sumOf_52 : decode cX10_sumOf 52 = .ok (.iload 6, 2) := by decide +kernel
theorem dX10_sumOf_54 : decode cX10_sumOf 54 = .ok (.bipush 8, 2) := by decide +kernel
theorem dX10_sumOf_56 : decode cX10_sumOf 56 = .ok (.if_icmp .ge 26, 3) := by decide +kernel
theorem dX10_sumOf_59 : decode cX10_sumOf 59 = .ok (.iload_n 3, 1) := by decide +kernel
theorem dX10_sumOf_60 : decode cX10_sumOf 60 = .ok (.ifCond .ge 12, 3) := by decide +kernel
theorem dX10_sumOf_63 : decode cX10_sumOf 63 = .ok (.iload_n 3, 1) := by decide +kernel
theorem dX10_sumOf_64 : decode cX10_sumOf 64 = .ok (.iconst 1, 1) := by decide +kernel
theorem dX10_sumOf_65 : decode cX10_sumOf 65 = .ok (.ishl, 1) := by decide +kernel
theorem dX10_sumOf_66 : decode cX10_sumOf 66 = .ok (.ldc 94, 2) := by decide +kernel
theorem dX10_sumOf_68 : decode cX10_sumOf 68 = .ok (.ixor, 1) := by decide +kernel
theorem dX10_sumOf_69 : decode cX10_sumOf 69 = .ok (.goto 6, 3) := by decide +kernel
theorem dX10_sumOf_72 : decode cX10_sumOf 72 = .ok (.iload_n 3, 1) := by decide +kernel
theorem dX10_sumOf_73 : decode cX10_sumOf 73 = .ok (.iconst 1, 1) := by decide +kernel
theorem dX10_sumOf_74 : decode cX10_sumOf 74 = .ok (.ishl, 1) := by decide +kernel
theorem dX10_sumOf_75 : decode cX10_sumOf 75 = .ok (.istore_n 3, 1) := by decide +kernel
theorem dX10_sumOf_76 : decode cX10_sumOf 76 = .ok (.iinc 6 1, 3) := by decide +kernel
theorem dX10_sumOf_79 : decode cX10_sumOf 79 = .ok (.goto (-27), 3) := by decide +kernel
theorem dX10_sumOf_82 : decode cX10_sumOf 82 = .ok (.iinc 4 1, 3) := by decide +kernel
theorem dX10_sumOf_85 : decode cX10_sumOf 85 = .ok (.goto (-80), 3) := by decide +kernel
theorem dX10_sumOf_88 : decode cX10_sumOf 88 = .ok (.iload_n 3, 1) := by decide +kernel
theorem dX10_sumOf_89 : decode cX10_sumOf 89 = .ok (.ireturn, 1) := by decide +kernel
set_option maxRecDepth 20000 in
theorem ggX10_putSum_X10_sumOf : GoodIn wsX10_putSum wsX10_sumOf := goodIn_r _ [4, 5] (by decide +kernel) (by decide +kernel)
set_option maxRecDepth 20000 in
theorem gX10_putSum_X10_sumOf : GoodIn wsX10_putSum (va_wsS RX10 95 yX10_sumOf wsX10_sumOf) := goodIn_app (goodIn_of _ (by decide +kernel)) ggX10_putSum_X10_sumOf
theorem dX10_putSum_0 : decode cX10_putSum 0 = .ok (.aload_n 0, 1) := by decide +kernel
theorem dX10_putSum_1 : decode cX10_putSum 1 = .ok (.iload_n 1, 1) := by decide +kernel
theorem dX10_putSum_2 : decode cX10_putSum 2 = .ok (.iload_n 2, 1) := by decide +kernel
theorem dX10_putSum_3 : decode cX10_putSum 3 = .ok (.invokestatic 95, 3) := by decide +kernel
theorem dX10_putSum_6 : decode cX10_putSum 6 = .ok (.istore_n 3, 1) := by decide +kernel
theorem dX10_putSum_7 : decode cX10_putSum 7 = .ok (.iconst 0, 1) := by decide +kernel
theorem dX10_putSum_8 : decode cX10_putSum 8 = .ok (.istore 4, 2) := by decide +kernel
theorem dX10_putSum_10 : decode cX10_putSum 10 = .ok (.iload 4, 2) := by decide +kernel
theorem dX10_putSum_12 : decode cX10_putSum 12 = .ok (.iconst 4, 1) := by decide +kernel
theorem dX10_putSum_13 : decode cX10_putSum 13 = .ok (.if_icmp .ge 26, 3) := by decide +kernel
theorem dX10_putSum_16 : decode cX10_putSum 16 = .ok (.aload_n 0, 1) := by decide +kernel
theorem dX10_putSum_17 : decode cX10_putSum 17 = .ok (.iload_n 1, 1) := by decide +kernel
theorem dX10_putSum_18 : decode cX10_putSum 18 = .ok (.bipush 22, 2) := by decide +kernel
theorem dX10_putSum_20 : decode cX10_putSum 20 = .ok (.iadd, 1) := by decide +kernel
theorem dX10_putSum_21 : decode cX10_putSum 21 = .ok (.iload 4, 2) := by decide +kernel
theorem dX10_putSum_23 : decode cX10_putSum 23 = .ok (.iadd, 1) := by decide +kernel
theorem dX10_putSum_24 : decode cX10_putSum 24 = .ok (.iload_n 3, 1) := by decide +kernel
theorem dX10_putSum_25 : decode cX10_putSum 25 = .ok (.bipush 8, 2) := by decide +kernel
theorem dX10_putSum_27 : decode cX10_putSum 27 = .ok (.iload 4, 2) := by decide +kernel
theorem dX10_putSum_29 : decode cX10_putSum 29 = .ok (.imul, 1) := by decide +kernel
theorem dX10_putSum_30 : decode cX10_putSum 30 = .ok (.ishr, 1) := by decide +kernel
theorem dX10_putSum_31 : decode cX10_putSum 31 = .ok (.i2b, 1) := by decide +kernel
theorem dX10_putSum_32 : decode cX10_putSum 32 = .ok (.bastore, 1) := by decide +kernel
theorem dX10_putSum_33 : decode cX10_putSum 33 = .ok (.iinc 4 1, 3) := by decide +kernel
theorem dX10_putSum_36 : decode cX10_putSum 36 = .ok (.goto (-26), 3) := by decide +kernel
theorem dX10_putSum_39 : decode cX10_putSum 39 = .ok (.return_, 1) := by decide +kernel
set_option maxRecDepth 20000 in
theorem ggX10_pages_X10_put : GoodIn wsX10_pages wsX10_put := goodIn_r _ [13, 4, 5, 8, 39, 40, 41, 42, 43, 44, 45, 46, 47, 48, 49, 50, 51, 52, 53, 54, 55, 56, 57, 58, 59, 60, 61, 62, 63, 64, 65, 66, 67, 68, 69, 70, 71, 72, 73, 74, 75, 76, 77, 78, 79, 80, 81, 82, 83, 84] (by decide +kernel) (by decide +kernel)
set_option maxRecDepth 20000 in
theorem gX10_pages_X10_put : GoodIn wsX10_pages (wsV RX10 88 RX10 yX10_put wsX10_put) := goodIn_app (goodIn_of _ (by decide +kernel)) ggX10_pages_X10_put
set_option maxRecDepth 20000 in
theorem ggX10_pages_X10_timeOf : GoodIn wsX10_pages wsX10_timeOf := goodIn_r _ [17, 3, 2, 39, 40, 41, 42, 43, 44, 45, 46, 47, 48, 49, 50, 51, 52, 53, 54, 55, 56, 57, 58, 59, 60, 61, 62, 63, 64, 65, 66, 67, 68, 69, 70, 71, 72, 73, 74, 75, 76, 77, 78, 79, 80, 81, 82, 83, 84] (by decide +kernel) (by decide +kernel)
set_option maxRecDepth 20000 in
theorem gX10_pages_X10_timeOf : GoodIn wsX10_pages (wsV RX10 99 RX10 yX10_timeOf wsX10_timeOf) := goodIn_app (goodIn_of _ (by decide +kernel)) ggX10_pages_X10_timeOf
set_option maxRecDepth 20000 in
theorem ggX10_pages_X10_putLow : GoodIn wsX10_pages wsX10_putLow := goodIn_r _ [21, 9, 10, 11, 12, 13, 4, 5, 8, 39, 40, 41, 42, 43, 44, 45, 46, 47, 48, 49, 50, 51, 52, 53, 54, 55, 56, 57, 58, 59, 60, 61, 62, 63, 64, 65, 66, 67, 68, 69, 70, 71, 72, 73, 74, 75, 76, 77, 78, 79, 80, 81, 82, 83, 84] (by decide +kernel) (by decide +kernel)
set_option maxRecDepth 20000 in
theorem gX10_pages_X10_putLow : GoodIn wsX10_pages (wsV RX10 103 RX10 yX10_putLow wsX10_putLow) := goodIn_app (goodIn_of _ (by decide +kernel)) ggX10_pages_X10_putLow
set_option maxRecDepth 20000 in
theorem ggX10_pages_X10_segmentsFrom : GoodIn wsX10_pages wsX10_segmentsFrom := goodIn_r _ [25, 6, 9, 10, 11, 12, 13, 4, 5, 8, 39, 40, 41, 42, 43, 44, 45, 46, 47, 48, 49, 50, 51, 52, 53, 54, 55, 56, 57, 58, 59, 60, 61, 62, 63, 64, 65, 66, 67, 68, 69, 70, 71, 72, 73, 74, 75, 76, 77, 78, 79, 80, 81, 82, 83, 84] (by decide +kernel) (by decide +kernel)
set_option maxRecDepth 20000 in
theorem gX10_pages_X10_segmentsFrom : GoodIn wsX10_pages (wsV RX10 107 RX10 yX10_segmentsFrom wsX10_segmentsFrom) := goodIn_app (goodIn_of _ (by decide +kernel)) ggX10_pages_X10_segmentsFrom
set_option maxRecDepth 20000 in
theorem ggX10_pages_X10_putSum : GoodIn wsX10_pages wsX10_putSum := goodIn_r _ [28, 29, 30, 12, 31, 32] (by decide +kernel) (by decide +kernel)
set_option maxRecDepth 20000 in
theorem gX10_pages_X10_putSum : GoodIn wsX10_pages (va_wsS RX10 111 yX10_putSum wsX10_putSum) := goodIn_app (goodIn_of _ (by decide +kernel)) ggX10_pages_X10_putSum
set_option maxRecDepth 20000 in
theorem ggX10_pages_X10_drawn : GoodIn wsX10_pages wsX10_drawn := goodIn_r _ [36, 5, 4, 37, 8, 38, 39, 40, 41, 42, 43, 44, 45, 46, 47, 48, 49, 50, 51, 52, 53, 54, 55, 56, 57, 58, 59, 60, 61, 62, 63, 64, 65, 66, 67, 68, 69, 70, 71, 72, 73, 74, 75, 76, 77, 78, 79, 80, 81, 82, 83, 84] (by decide +kernel) (by decide +kernel)
set_option maxRecDepth 20000 in
theorem gX10_pages_X10_drawn : GoodIn wsX10_pages (wsV RX10 115 RX10 yX10_drawn wsX10_drawn) := goodIn_app (goodIn_of _ (by decide +kernel)) ggX10_pages_X10_drawn
theorem dX10_pages_0 : decode cX10_pages 0 = .ok (.iload_n 2, 1) := by decide +kernel
theorem dX10_pages_1 : decode cX10_pages 1 = .ok (.iconst 1, 1) := by decide +kernel
theorem dX10_pages_2 : decode cX10_pages 2 = .ok (.if_icmp .lt 21, 3) := by decide +kernel
theorem dX10_pages_5 : decode cX10_pages 5 = .ok (.iload_n 2, 1) := by decide +kernel
theorem dX10_pages_6 : decode cX10_pages 6 = .ok (.bipush 20, 2) := by decide +kernel
theorem dX10_pages_8 : decode cX10_pages 8 = .ok (.if_icmp .gt 15, 3) := by decide +kernel
theorem dX10_pages_11 : decode cX10_pages 11 = .ok (.iload_n 3, 1) := by decide +kernel
theorem dX10_pages_12 : decode cX10_pages 12 = .ok (.iconst 1, 1) := by decide +kernel
theorem dX10_pages_13 : decode cX10_pages 13 = .ok (.if_icmp .lt 10, 3) := by decide +kernel
theorem dX10_pages_16 : decode cX10_pages 16 = .ok (.iload_n 3, 1) := by decide +kernel
theorem dX10_pages_17 : decode cX10_pages 17 = .ok (.sipush 255, 3) := by decide +kernel
theorem dX10_pages_20 : decode cX10_pages 20 = .ok (.if_icmp .le 6, 3) := by decide +kernel
theorem dX10_pages_23 : decode cX10_pages 23 = .ok (.bipush (-2), 2) := by decide +kernel
theorem dX10_pages_25 : decode cX10_pages 25 = .ok (.ireturn, 1) := by decide +kernel
theorem dX10_pages_26 : decode cX10_pages 26 = .ok (.aload_n 0, 1) := by decide +kernel
theorem dX10_pages_27 : decode cX10_pages 27 = .ok (.getfield 69, 3) := by decide +kernel
theorem dX10_pages_30 : decode cX10_pages 30 = .ok (.ifCond .ne 5, 3) := by decide +kernel
theorem dX10_pages_33 : decode cX10_pages 33 = .ok (.iconst (-1), 1) := by decide +kernel
theorem dX10_pages_34 : decode cX10_pages 34 = .ok (.ireturn, 1) := by decide +kernel
theorem dX10_pages_35 : decode cX10_pages 35 = .ok (.ldc2_w 65, 3) := by decide +kernel
theorem dX10_pages_38 : decode cX10_pages 38 = .ok (.lstore 4, 2) := by decide +kernel
theorem dX10_pages_40 : decode cX10_pages 40 = .ok (.iconst 0, 1) := by decide +kernel
theorem dX10_pages_41 : decode cX10_pages 41 = .ok (.istore 6, 2) := by decide +kernel
theorem dX10_pages_43 : decode cX10_pages 43 = .ok (.iload 6, 2) := by decide +kernel
theorem dX10_pages_45 : decode cX10_pages 45 = .ok (.aload_n 0, 1) := by decide +kernel
theorem dX10_pages_46 : decode cX10_pages 46 = .ok (.getfield 69, 3) := by decide +kernel
theorem dX10_pages_49 : decode cX10_pages 49 = .ok (.if_icmp .ge 50, 3) := by decide +kernel
theorem dX10_pages_52 : decode cX10_pages 52 = .ok (.aload_n 0, 1) := by decide +kernel
theorem dX10_pages_53 : decode cX10_pages 53 = .ok (.getfield 26, 3) := by decide +kernel
theorem dX10_pages_56 : decode cX10_pages 56 = .ok (.iload 6, 2) := by decide +kernel
theorem dX10_pages_58 : decode cX10_pages 58 = .ok (.laload, 1) := by decide +kernel
theorem dX10_pages_59 : decode cX10_pages 59 = .ok (.ldc2_w 65, 3) := by decide +kernel
theorem dX10_pages_62 : decode cX10_pages 62 = .ok (.lcmp, 1) := by decide +kernel
theorem dX10_pages_63 : decode cX10_pages 63 = .ok (.ifCond .ne 6, 3) := by decide +kernel
theorem dX10_pages_66 : decode cX10_pages 66 = .ok (.goto 27, 3) := by decide +kernel
theorem dX10_pages_69 : decode cX10_pages 69 = .ok (.aload_n 0, 1) := by decide +kernel
theorem dX10_pages_70 : decode cX10_pages 70 = .ok (.getfield 26, 3) := by decide +kernel
theorem dX10_pages_73 : decode cX10_pages 73 = .ok (.iload 6, 2) := by decide +kernel
theorem dX10_pages_75 : decode cX10_pages 75 = .ok (.laload, 1) := by decide +kernel
theorem dX10_pages_76 : decode cX10_pages 76 = .ok (.lload 4, 2) := by decide +kernel
theorem dX10_pages_78 : decode cX10_pages 78 = .ok (.lcmp, 1) := by decide +kernel
theorem dX10_pages_79 : decode cX10_pages 79 = .ok (.ifCond .ge 5, 3) := by decide +kernel
theorem dX10_pages_82 : decode cX10_pages 82 = .ok (.iconst (-1), 1) := by decide +kernel
theorem dX10_pages_83 : decode cX10_pages 83 = .ok (.ireturn, 1) := by decide +kernel
theorem dX10_pages_84 : decode cX10_pages 84 = .ok (.aload_n 0, 1) := by decide +kernel
theorem dX10_pages_85 : decode cX10_pages 85 = .ok (.getfield 26, 3) := by decide +kernel
theorem dX10_pages_88 : decode cX10_pages 88 = .ok (.iload 6, 2) := by decide +kernel
theorem dX10_pages_90 : decode cX10_pages 90 = .ok (.laload, 1) := by decide +kernel
theorem dX10_pages_91 : decode cX10_pages 91 = .ok (.lstore 4, 2) := by decide +kernel
theorem dX10_pages_93 : decode cX10_pages 93 = .ok (.iinc 6 1, 3) := by decide +kernel
theorem dX10_pages_96 : decode cX10_pages 96 = .ok (.goto (-53), 3) := by decide +kernel
theorem dX10_pages_99 : decode cX10_pages 99 = .ok (.aload_n 0, 1) := by decide +kernel
theorem dX10_pages_100 : decode cX10_pages 100 = .ok (.iconst 0, 1) := by decide +kernel
theorem dX10_pages_101 : decode cX10_pages 101 = .ok (.putfield 81, 3) := by decide +kernel
theorem dX10_pages_104 : decode cX10_pages 104 = .ok (.aload_n 0, 1) := by decide +kernel
theorem dX10_pages_105 : decode cX10_pages 105 = .ok (.iconst 0, 1) := by decide +kernel
theorem dX10_pages_106 : decode cX10_pages 106 = .ok (.putfield 84, 3) := by decide +kernel
theorem dX10_pages_109 : decode cX10_pages 109 = .ok (.iconst 0, 1) := by decide +kernel
theorem dX10_pages_110 : decode cX10_pages 110 = .ok (.istore 6, 2) := by decide +kernel
theorem dX10_pages_112 : decode cX10_pages 112 = .ok (.iconst 0, 1) := by decide +kernel
theorem dX10_pages_113 : decode cX10_pages 113 = .ok (.istore 7, 2) := by decide +kernel
theorem dX10_pages_115 : decode cX10_pages 115 = .ok (.iconst 0, 1) := by decide +kernel
theorem dX10_pages_116 : decode cX10_pages 116 = .ok (.istore 8, 2) := by decide +kernel
theorem dX10_pages_118 : decode cX10_pages 118 = .ok (.iconst 0, 1) := by decide +kernel
theorem dX10_pages_119 : decode cX10_pages 119 = .ok (.istore 9, 2) := by decide +kernel
theorem dX10_pages_121 : decode cX10_pages 121 = .ok (.iload 6, 2) := by decide +kernel
theorem dX10_pages_123 : decode cX10_pages 123 = .ok (.aload_n 0, 1) := by decide +kernel
theorem dX10_pages_124 : decode cX10_pages 124 = .ok (.getfield 69, 3) := by decide +kernel
theorem dX10_pages_127 : decode cX10_pages 127 = .ok (.if_icmp .ge 360, 3) := by decide +kernel
theorem dX10_pages_130 : decode cX10_pages 130 = .ok (.aload_n 0, 1) := by decide +kernel
theorem dX10_pages_131 : decode cX10_pages 131 = .ok (.getfield 84, 3) := by decide +kernel
theorem dX10_pages_134 : decode cX10_pages 134 = .ok (.ifCond .ne 353, 3) := by decide +kernel
theorem dX10_pages_137 : decode cX10_pages 137 = .ok (.aload_n 0, 1) := by decide +kernel
theorem dX10_pages_138 : decode cX10_pages 138 = .ok (.getfield 81, 3) := by decide +kernel
theorem dX10_pages_141 : decode cX10_pages 141 = .ok (.istore 10, 2) := by decide +kernel
theorem dX10_pages_143 : decode cX10_pages 143 = .ok (.iload 7, 2) := by decide +kernel
theorem dX10_pages_145 : decode cX10_pages 145 = .ok (.ifCond .le 7, 3) := by decide +kernel
theorem dX10_pages_148 : decode cX10_pages 148 = .ok (.iconst 1, 1) := by decide +kernel
theorem dX10_pages_149 : decode cX10_pages 149 = .ok (.goto 4, 3) := by decide +kernel
theorem dX10_pages_152 : decode cX10_pages 152 = .ok (.iconst 0, 1) := by decide +kernel
theorem dX10_pages_153 : decode cX10_pages 153 = .ok (.istore 11, 2) := by decide +kernel
theorem dX10_pages_155 : decode cX10_pages 155 = .ok (.iload 6, 2) := by decide +kernel
theorem dX10_pages_157 : decode cX10_pages 157 = .ok (.istore 12, 2) := by decide +kernel
theorem dX10_pages_159 : decode cX10_pages 159 = .ok (.iload 7, 2) := by decide +kernel
theorem dX10_pages_161 : decode cX10_pages 161 = .ok (.istore 13, 2) := by decide +kernel
theorem dX10_pages_163 : decode cX10_pages 163 = .ok (.iload 8, 2) := by decide +kernel
theorem dX10_pages_165 : decode cX10_pages 165 = .ok (.istore 14, 2) := by decide +kernel
theorem dX10_pages_167 : decode cX10_pages 167 = .ok (.iconst 0, 1) := by decide +kernel
theorem dX10_pages_168 : decode cX10_pages 168 = .ok (.istore 15, 2) := by decide +kernel
theorem dX10_pages_170 : decode cX10_pages 170 = .ok (.iconst 0, 1) := by decide +kernel
theorem dX10_pages_171 : decode cX10_pages 171 = .ok (.istore 16, 2) := by decide +kernel
theorem dX10_pages_173 : decode cX10_pages 173 = .ok (.iconst 1, 1) := by decide +kernel
theorem dX10_pages_174 : decode cX10_pages 174 = .ok (.istore 17, 2) := by decide +kernel
theorem dX10_pages_176 : decode cX10_pages 176 = .ok (.iload 17, 2) := by decide +kernel
theorem dX10_pages_178 : decode cX10_pages 178 = .ok (.ifCond .eq 111, 3) := by decide +kernel
theorem dX10_pages_181 : decode cX10_pages 181 = .ok (.aload_n 0, 1) := by decide +kernel
theorem dX10_pages_182 : decode cX10_pages 182 = .ok (.getfield 19, 3) := by decide +kernel
theorem dX10_pages_185 : decode cX10_pages 185 = .ok (.iload 6, 2) := by decide +kernel
theorem dX10_pages_187 : decode cX10_pages 187 = .ok (.iaload, 1) := by decide +kernel
theorem dX10_pages_188 : decode cX10_pages 188 = .ok (.iload 7, 2) := by decide +kernel
theorem dX10_pages_190 : decode cX10_pages 190 = .ok (.isub, 1) := by decide +kernel
theorem dX10_pages_191 : decode cX10_pages 191 = .ok (.istore 18, 2) := by decide +kernel
theorem dX10_pages_193 : decode cX10_pages 193 = .ok (.iinc 15 1, 3) := by decide +kernel
theorem dX10_pages_196 : decode cX10_pages 196 = .ok (.iload 18, 2) := by decide +kernel
theorem dX10_pages_198 : decode cX10_pages 198 = .ok (.sipush 255, 3) := by decide +kernel
theorem dX10_pages_201 : decode cX10_pages 201 = .ok (.if_icmp .lt 12, 3) := by decide +kernel
theorem dX10_pages_204 : decode cX10_pages 204 = .ok (.iinc 7 255, 6) := by decide +kernel
theorem dX10_pages_210 : decode cX10_pages 210 = .ok (.goto 24, 3) := by decide +kernel
theorem dX10_pages_213 : decode cX10_pages 213 = .ok (.iload 8, 2) := by decide +kernel
theorem dX10_pages_215 : decode cX10_pages 215 = .ok (.aload_n 0, 1) := by decide +kernel
theorem dX10_pages_216 : decode cX10_pages 216 = .ok (.getfield 19, 3) := by decide +kernel
theorem dX10_pages_219 : decode cX10_pages 219 = .ok (.iload 6, 2) := by decide +kernel
theorem dX10_pages_221 : decode cX10_pages 221 = .ok (.iaload, 1) := by decide +kernel
theorem dX10_pages_222 : decode cX10_pages 222 = .ok (.iadd, 1) := by decide +kernel
theorem dX10_pages_223 : decode cX10_pages 223 = .ok (.istore 8, 2) := by decide +kernel
theorem dX10_pages_225 : decode cX10_pages 225 = .ok (.iinc 6 1, 3) := by decide +kernel
theorem dX10_pages_228 : decode cX10_pages 228 = .ok (.iinc 16 1, 3) := by decide +kernel
theorem dX10_pages_231 : decode cX10_pages 231 = .ok (.iconst 0, 1) := by decide +kernel
theorem dX10_pages_232 : decode cX10_pages 232 = .ok (.istore 7, 2) := by decide +kernel
theorem dX10_pages_234 : decode cX10_pages 234 = .ok (.iload 6, 2) := by decide +kernel
theorem dX10_pages_236 : decode cX10_pages 236 = .ok (.aload_n 0, 1) := by decide +kernel
theorem dX10_pages_237 : decode cX10_pages 237 = .ok (.getfield 69, 3) := by decide +kernel
theorem dX10_pages_240 : decode cX10_pages 240 = .ok (.if_icmp .ge 43, 3) := by decide +kernel
theorem dX10_pages_243 : decode cX10_pages 243 = .ok (.iload 15, 2) := by decide +kernel
theorem dX10_pages_245 : decode cX10_pages 245 = .ok (.iload_n 3, 1) := by decide +kernel
theorem dX10_pages_246 : decode cX10_pages 246 = .ok (.if_icmp .ge 37, 3) := by decide +kernel
theorem dX10_pages_249 : decode cX10_pages 249 = .ok (.iload 7, 2) := by decide +kernel
theorem dX10_pages_251 : decode cX10_pages 251 = .ok (.ifCond .ne 28, 3) := by decide +kernel
theorem dX10_pages_254 : decode cX10_pages 254 = .ok (.iload 16, 2) := by decide +kernel
theorem dX10_pages_256 : decode cX10_pages 256 = .ok (.ifCond .le 23, 3) := by decide +kernel
theorem dX10_pages_259 : decode cX10_pages 259 = .ok (.iload 18, 2) := by decide +kernel
theorem dX10_pages_261 : decode cX10_pages 261 = .ok (.sipush 255, 3) := by decide +kernel
theorem dX10_pages_264 : decode cX10_pages 264 = .ok (.if_icmp .ge 15, 3) := by decide +kernel
theorem dX10_pages_267 : decode cX10_pages 267 = .ok (.iload 16, 2) := by decide +kernel
theorem dX10_pages_269 : decode cX10_pages 269 = .ok (.iload_n 2, 1) := by decide +kernel
theorem dX10_pages_270 : decode cX10_pages 270 = .ok (.if_icmp .eq 13, 3) := by decide +kernel
theorem dX10_pages_273 : decode cX10_pages 273 = .ok (.iload 6, 2) := by decide +kernel
theorem dX10_pages_275 : decode cX10_pages 275 = .ok (.iconst 1, 1) := by decide +kernel
theorem dX10_pages_276 : decode cX10_pages 276 = .ok (.if_icmp .eq 7, 3) := by decide +kernel
theorem dX10_pages_279 : decode cX10_pages 279 = .ok (.iconst 1, 1) := by decide +kernel
theorem dX10_pages_280 : decode cX10_pages 280 = .ok (.goto 4, 3) := by decide +kernel
theorem dX10_pages_283 : decode cX10_pages 283 = .ok (.iconst 0, 1) := by decide +kernel
theorem dX10_pages_284 : decode cX10_pages 284 = .ok (.istore 17, 2) := by decide +kernel
theorem dX10_pages_286 : decode cX10_pages 286 = .ok (.goto (-110), 3) := by decide +kernel
theorem dX10_pages_289 : decode cX10_pages 289 = .ok (.aload_n 0, 1) := by decide +kernel
theorem dX10_pages_290 : decode cX10_pages 290 = .ok (.bipush 79, 2) := by decide +kernel
theorem dX10_pages_292 : decode cX10_pages 292 = .ok (.invokevirtual 88, 3) := by decide +kernel
theorem dX10_pages_295 : decode cX10_pages 295 = .ok (.aload_n 0, 1) := by decide +kernel
theorem dX10_pages_296 : decode cX10_pages 296 = .ok (.bipush 103, 2) := by decide +kernel
theorem dX10_pages_298 : decode cX10_pages 298 = .ok (.invokevirtual 88, 3) := by decide +kernel
theorem dX10_pages_301 : decode cX10_pages 301 = .ok (.aload_n 0, 1) := by decide +kernel
theorem dX10_pages_302 : decode cX10_pages 302 = .ok (.bipush 103, 2) := by decide +kernel
theorem dX10_pages_304 : decode cX10_pages 304 = .ok (.invokevirtual 88, 3) := by decide +kernel
theorem dX10_pages_307 : decode cX10_pages 307 = .ok (.aload_n 0, 1) := by decide +kernel
theorem dX10_pages_308 : decode cX10_pages 308 = .ok (.bipush 83, 2) := by decide +kernel
theorem dX10_pages_310 : decode cX10_pages 310 = .ok (.invokevirtual 88, 3) := by decide +kernel
theorem dX10_pages_313 : decode cX10_pages 313 = .ok (.aload_n 0, 1) := by decide +kernel
theorem dX10_pages_314 : decode cX10_pages 314 = .ok (.iconst 0, 1) := by decide +kernel
theorem dX10_pages_315 : decode cX10_pages 315 = .ok (.invokevirtual 88, 3) := by decide +kernel
theorem dX10_pages_318 : decode cX10_pages 318 = .ok (.aload_n 0, 1) := by decide +kernel
theorem dX10_pages_319 : decode cX10_pages 319 = .ok (.iload 11, 2) := by decide +kernel
theorem dX10_pages_321 : decode cX10_pages 321 = .ok (.ifCond .eq 7, 3) := by decide +kernel
theorem dX10_pages_324 : decode cX10_pages 324 = .ok (.iconst 1, 1) := by decide +kernel
theorem dX10_pages_325 : decode cX10_pages 325 = .ok (.goto 4, 3) := by decide +kernel
theorem dX10_pages_328 : decode cX10_pages 328 = .ok (.iconst 0, 1) := by decide +kernel
theorem dX10_pages_329 : decode cX10_pages 329 = .ok (.iload 9, 2) := by decide +kernel
theorem dX10_pages_331 : decode cX10_pages 331 = .ok (.ifCond .ne 7, 3) := by decide +kernel
theorem dX10_pages_334 : decode cX10_pages 334 = .ok (.iconst 2, 1) := by decide +kernel
theorem dX10_pages_335 : decode cX10_pages 335 = .ok (.goto 4, 3) := by decide +kernel
theorem dX10_pages_338 : decode cX10_pages 338 = .ok (.iconst 0, 1) := by decide +kernel
theorem dX10_pages_339 : decode cX10_pages 339 = .ok (.iadd, 1) := by decide +kernel
theorem dX10_pages_340 : decode cX10_pages 340 = .ok (.iload 6, 2) := by decide +kernel
theorem dX10_pages_342 : decode cX10_pages 342 = .ok (.aload_n 0, 1) := by decide +kernel
theorem dX10_pages_343 : decode cX10_pages 343 = .ok (.getfield 69, 3) := by decide +kernel
theorem dX10_pages_346 : decode cX10_pages 346 = .ok (.if_icmp .ne 7, 3) := by decide +kernel
theorem dX10_pages_349 : decode cX10_pages 349 = .ok (.iconst 4, 1) := by decide +kernel
theorem dX10_pages_350 : decode cX10_pages 350 = .ok (.goto 4, 3) := by decide +kernel
theorem dX10_pages_353 : decode cX10_pages 353 = .ok (.iconst 0, 1) := by decide +kernel
theorem dX10_pages_354 : decode cX10_pages 354 = .ok (.iadd, 1) := by decide +kernel
theorem dX10_pages_355 : decode cX10_pages 355 = .ok (.invokevirtual 88, 3) := by decide +kernel
theorem dX10_pages_358 : decode cX10_pages 358 = .ok (.aload_n 0, 1) := by decide +kernel
theorem dX10_pages_359 : decode cX10_pages 359 = .ok (.iload 16, 2) := by decide +kernel
theorem dX10_pages_361 : decode cX10_pages 361 = .ok (.ifCond .ne 9, 3) := by decide +kernel
theorem dX10_pages_364 : decode cX10_pages 364 = .ok (.ldc2_w 65, 3) := by decide +kernel
theorem dX10_pages_367 : decode cX10_pages 367 = .ok (.goto 11, 3) := by decide +kernel
theorem dX10_pages_370 : decode cX10_pages 370 = .ok (.aload_n 0, 1) := by decide +kernel
theorem dX10_pages_371 : decode cX10_pages 371 = .ok (.iload 6, 2) := by decide +kernel
theorem dX10_pages_373 : decode cX10_pages 373 = .ok (.iconst 1, 1) := by decide +kernel
theorem dX10_pages_374 : decode cX10_pages 374 = .ok (.isub, 1) := by decide +kernel
theorem dX10_pages_375 : decode cX10_pages 375 = .ok (.invokevirtual 99, 3) := by decide +kernel
theorem dX10_pages_378 : decode cX10_pages 378 = .ok (.bipush 8, 2) := by decide +kernel
theorem dX10_pages_380 : decode cX10_pages 380 = .ok (.invokevirtual 103, 3) := by decide +kernel
theorem dX10_pages_383 : decode cX10_pages 383 = .ok (.aload_n 0, 1) := by decide +kernel
theorem dX10_pages_384 : decode cX10_pages 384 = .ok (.iload_n 1, 1) := by decide +kernel
theorem dX10_pages_385 : decode cX10_pages 385 = .ok (.i2l, 1) := by decide +kernel
theorem dX10_pages_386 : decode cX10_pages 386 = .ok (.iconst 4, 1) := by decide +kernel
theorem dX10_pages_387 : decode cX10_pages 387 = .ok (.invokevirtual 103, 3) := by decide +kernel
theorem dX10_pages_390 : decode cX10_pages 390 = .ok (.aload_n 0, 1) := by decide +kernel
theorem dX10_pages_391 : decode cX10_pages 391 = .ok (.iload 9, 2) := by decide +kernel
theorem dX10_pages_393 : decode cX10_pages 393 = .ok (.i2l, 1) := by decide +kernel
theorem dX10_pages_394 : decode cX10_pages 394 = .ok (.iconst 4, 1) := by decide +kernel
theorem dX10_pages_395 : decode cX10_pages 395 = .ok (.invokevirtual 103, 3) := by decide +kernel
theorem dX10_pages_398 : decode cX10_pages 398 = .ok (.aload_n 0, 1) := by decide +kernel
theorem dX10_pages_399 : decode cX10_pages 399 = .ok (.lconst 0, 1) := by decide +kernel
theorem dX10_pages_400 : decode cX10_pages 400 = .ok (.iconst 4, 1) := by decide +kernel
theorem dX10_pages_401 : decode cX10_pages 401 = .ok (.invokevirtual 103, 3) := by decide +kernel
theorem dX10_pages_404 : decode cX10_pages 404 = .ok (.aload_n 0, 1) := by decide +kernel
theorem dX10_pages_405 : decode cX10_pages 405 = .ok (.iload 15, 2) := by decide +kernel
theorem dX10_pages_407 : decode cX10_pages 407 = .ok (.invokevirtual 88, 3) := by decide +kernel
theorem dX10_pages_410 : decode cX10_pages 410 = .ok (.aload_n 0, 1) := by decide +kernel
theorem dX10_pages_411 : decode cX10_pages 411 = .ok (.iload 12, 2) := by decide +kernel
theorem dX10_pages_413 : decode cX10_pages 413 = .ok (.iload 13, 2) := by decide +kernel
theorem dX10_pages_415 : decode cX10_pages 415 = .ok (.iload 15, 2) := by decide +kernel
theorem dX10_pages_417 : decode cX10_pages 417 = .ok (.invokevirtual 107, 3) := by decide +kernel
theorem dX10_pages_420 : decode cX10_pages 420 = .ok (.iload 8, 2) := by decide +kernel
theorem dX10_pages_422 : decode cX10_pages 422 = .ok (.iload 7, 2) := by decide +kernel
theorem dX10_pages_424 : decode cX10_pages 424 = .ok (.iadd, 1) := by decide +kernel
theorem dX10_pages_425 : decode cX10_pages 425 = .ok (.istore 18, 2) := by decide +kernel
theorem dX10_pages_427 : decode cX10_pages 427 = .ok (.iload 14, 2) := by decide +kernel
theorem dX10_pages_429 : decode cX10_pages 429 = .ok (.iload 13, 2) := by decide +kernel
theorem dX10_pages_431 : decode cX10_pages 431 = .ok (.iadd, 1) := by decide +kernel
theorem dX10_pages_432 : decode cX10_pages 432 = .ok (.istore 19, 2) := by decide +kernel
theorem dX10_pages_434 : decode cX10_pages 434 = .ok (.iload 19, 2) := by decide +kernel
theorem dX10_pages_436 : decode cX10_pages 436 = .ok (.iload 18, 2) := by decide +kernel
theorem dX10_pages_438 : decode cX10_pages 438 = .ok (.if_icmp .ge 20, 3) := by decide +kernel
theorem dX10_pages_441 : decode cX10_pages 441 = .ok (.aload_n 0, 1) := by decide +kernel
theorem dX10_pages_442 : decode cX10_pages 442 = .ok (.aload_n 0, 1) := by decide +kernel
theorem dX10_pages_443 : decode cX10_pages 443 = .ok (.getfield 33, 3) := by decide +kernel
theorem dX10_pages_446 : decode cX10_pages 446 = .ok (.iload 19, 2) := by decide +kernel
theorem dX10_pages_448 : decode cX10_pages 448 = .ok (.baload, 1) := by decide +kernel
theorem dX10_pages_449 : decode cX10_pages 449 = .ok (.invokevirtual 88, 3) := by decide +kernel
theorem dX10_pages_452 : decode cX10_pages 452 = .ok (.iinc 19 1, 3) := by decide +kernel
theorem dX10_pages_455 : decode cX10_pages 455 = .ok (.goto (-21), 3) := by decide +kernel
theorem dX10_pages_458 : decode cX10_pages 458 = .ok (.aload_n 0, 1) := by decide +kernel
theorem dX10_pages_459 : decode cX10_pages 459 = .ok (.getfield 84, 3) := by decide +kernel
theorem dX10_pages_462 : decode cX10_pages 462 = .ok (.ifCond .ne 19, 3) := by decide +kernel
theorem dX10_pages_465 : decode cX10_pages 465 = .ok (.aload_n 0, 1) := by decide +kernel
theorem dX10_pages_466 : decode cX10_pages 466 = .ok (.getfield 16, 3) := by decide +kernel
theorem dX10_pages_469 : decode cX10_pages 469 = .ok (.iload 10, 2) := by decide +kernel
theorem dX10_pages_471 : decode cX10_pages 471 = .ok (.aload_n 0, 1) := by decide +kernel
theorem dX10_pages_472 : decode cX10_pages 472 = .ok (.getfield 81, 3) := by decide +kernel
theorem dX10_pages_475 : decode cX10_pages 475 = .ok (.iload 10, 2) := by decide +kernel
theorem dX10_pages_477 : decode cX10_pages 477 = .ok (.isub, 1) := by decide +kernel
theorem dX10_pages_478 : decode cX10_pages 478 = .ok (.invokestatic 111, 3) := by decide +kernel
theorem dX10_pages_481 : decode cX10_pages 481 = .ok (.iinc 9 1, 3) := by decide +kernel
theorem dX10_pages_484 : decode cX10_pages 484 = .ok (.goto (-363), 3) := by decide +kernel
theorem dX10_pages_487 : decode cX10_pages 487 = .ok (.aload_n 0, 1) := by decide +kernel
theorem dX10_pages_488 : decode cX10_pages 488 = .ok (.invokevirtual 115, 3) := by decide +kernel
theorem dX10_pages_491 : decode cX10_pages 491 = .ok (.ireturn, 1) := by decide +kernel
set_option maxRecDepth 20000 in
theorem ggX10_segmentsFrom_X10_put : GoodIn wsX10_segmentsFrom wsX10_put := goodIn_r _ [6, 7, 8, 9, 10, 11, 12, 13, 14, 15, 16, 17, 18, 19, 20, 21, 22, 23, 24, 25, 26, 27, 28, 29, 30, 31, 32, 33, 34, 35, 36, 37, 38, 39, 40, 41, 42, 43, 44, 45, 46, 47, 48, 49, 50, 51, 52, 53, 54, 55] (by decide +kernel) (by decide +kernel)
set_option maxRecDepth 20000 in
theorem gX10_segmentsFrom_X10_put : GoodIn wsX10_segmentsFrom (wsV RX10 88 RX10 yX10_put wsX10_put) := goodIn_app (goodIn_of _ (by decide +kernel)) ggX10_segmentsFrom_X10_put
theorem dX10_segmentsFrom_0 : decode cX10_segmentsFrom 0 = .ok (.iload_n 1, 1) := by decide +kernel
theorem dX10_segmentsFrom_1 : decode cX10_segmentsFrom 1 = .ok (.istore 4, 2) := by decide +kernel
theorem dX10_segmentsFrom_3 : decode cX10_segmentsFrom 3 = .ok (.iload_n 2, 1) := by decide +kernel
theorem dX10_segmentsFrom_4 : decode cX10_segmentsFrom 4 = .ok (.istore 5, 2) := by decide +kernel
theorem dX10_segmentsFrom_6 : decode cX10_segmentsFrom 6 = .ok (.iconst 0, 1) := by decide +kernel
theorem dX10_segmentsFrom_7 : decode cX10_segmentsFrom 7 = .ok (.istore 6, 2) := by decide +kernel
theorem dX10_segmentsFrom_9 : decode cX10_segmentsFrom 9 = .ok (.iload 6, 2) := by decide +kernel
theorem dX10_segmentsFrom_11 : decode cX10_segmentsFrom 11 = .ok (.iload_n 3, 1) := by decide +kernel
theorem dX10_segmentsFrom_12 : decode cX10_segmentsFrom 12 = .ok (.if_icmp .ge 64, 3) := by decide +kernel
theorem dX10_segmentsFrom_15 : decode cX10_segmentsFrom 15 = .ok (.aload_n 0, 1) := by decide +kernel
theorem dX10_segmentsFrom_16 : decode cX10_segmentsFrom 16 = .ok (.getfield 19, 3) := by decide +kernel
theorem dX10_segmentsFrom_19 : decode cX10_segmentsFrom 19 = .ok (.iload 4, 2) := by decide +kernel
theorem dX10_segmentsFrom_21 : decode cX10_segmentsFrom 21 = .ok (.iaload, 1) := by decide +kernel
theorem dX10_segmentsFrom_22 : decode cX10_segmentsFrom 22 = .ok (.iload 5, 2) := by decide +kernel
theorem dX10_segmentsFrom_24 : decode cX10_segmentsFrom 24 = .ok (.isub, 1) := by decide +kernel
theorem dX10_segmentsFrom_25 : decode cX10_segmentsFrom 25 = .ok (.istore 7, 2) := by decide +kernel
theorem dX10_segmentsFrom_27 : decode cX10_segmentsFrom 27 = .ok (.aload_n 0, 1) := by decide +kernel
theorem dX10_segmentsFrom_28 : decode cX10_segmentsFrom 28 = .ok (.iload 7, 2) := by decide +kernel
theorem dX10_segmentsFrom_30 : decode cX10_segmentsFrom 30 = .ok (.sipush 255, 3) := by decide +kernel
theorem dX10_segmentsFrom_33 : decode cX10_segmentsFrom 33 = .ok (.if_icmp .lt 9, 3) := by decide +kernel
theorem dX10_segmentsFrom_36 : decode cX10_segmentsFrom 36 = .ok (.sipush 255, 3) := by decide +kernel
theorem dX10_segmentsFrom_39 : decode cX10_segmentsFrom 39 = .ok (.goto 5, 3) := by decide +kernel
theorem dX10_segmentsFrom_42 : decode cX10_segmentsFrom 42 = .ok (.iload 7, 2) := by decide +kernel
theorem dX10_segmentsFrom_44 : decode cX10_segmentsFrom 44 = .ok (.invokevirtual 88, 3) := by decide +kernel
theorem dX10_segmentsFrom_47 : decode cX10_segmentsFrom 47 = .ok (.iinc 5 255, 6) := by decide +kernel
theorem dX10_segmentsFrom_53 : decode cX10_segmentsFrom 53 = .ok (.iload 7, 2) := by decide +kernel
theorem dX10_segmentsFrom_55 : decode cX10_segmentsFrom 55 = .ok (.sipush 255, 3) := by decide +kernel
theorem dX10_segmentsFrom_58 : decode cX10_segmentsFrom 58 = .ok (.if_icmp .lt 6, 3) := by decide +kernel
theorem dX10_segmentsFrom_61 : decode cX10_segmentsFrom 61 = .ok (.goto 9, 3) := by decide +kernel
theorem dX10_segmentsFrom_64 : decode cX10_segmentsFrom 64 = .ok (.iinc 4 1, 3) := by decide +kernel
theorem dX10_segmentsFrom_67 : decode cX10_segmentsFrom 67 = .ok (.iconst 0, 1) := by decide +kernel
theorem dX10_segmentsFrom_68 : decode cX10_segmentsFrom 68 = .ok (.istore 5, 2) := by decide +kernel
theorem dX10_segmentsFrom_70 : decode cX10_segmentsFrom 70 = .ok (.iinc 6 1, 3) := by decide +kernel
theorem dX10_segmentsFrom_73 : decode cX10_segmentsFrom 73 = .ok (.goto (-64), 3) := by decide +kernel
theorem dX10_segmentsFrom_76 : decode cX10_segmentsFrom 76 = .ok (.return_, 1) := by decide +kernel
theorem dX10_fails_0 : decode cX10_fails 0 = .ok (.aload_n 0, 1) := by decide +kernel
theorem dX10_fails_1 : decode cX10_fails 1 = .ok (.iload_n 1, 1) := by decide +kernel
theorem dX10_fails_2 : decode cX10_fails 2 = .ok (.putfield 119, 3) := by decide +kernel
theorem dX10_fails_5 : decode cX10_fails 5 = .ok (.aload_n 0, 1) := by decide +kernel
theorem dX10_fails_6 : decode cX10_fails 6 = .ok (.iload_n 2, 1) := by decide +kernel
theorem dX10_fails_7 : decode cX10_fails 7 = .ok (.putfield 122, 3) := by decide +kernel
theorem dX10_fails_10 : decode cX10_fails 10 = .ok (.iconst 0, 1) := by decide +kernel
theorem dX10_fails_11 : decode cX10_fails 11 = .ok (.ireturn, 1) := by decide +kernel
set_option maxRecDepth 20000 in
theorem ggX10_low_X10_at : GoodIn wsX10_low wsX10_at := goodIn_r _ [5, 6, 7, 8, 9, 10, 11, 12, 13, 14, 15, 16, 17, 18, 19, 20, 21, 22, 23, 24, 25, 26, 27, 28, 29, 30, 31, 32, 33, 34, 35, 36, 37, 38, 39, 40, 41, 42, 43, 44, 45, 46, 47, 48, 49, 50, 51, 52] (by decide +kernel) (by decide +kernel)
set_option maxRecDepth 20000 in
theorem gX10_low_X10_at : GoodIn wsX10_low (wsV RX10 125 RX10 yX10_at wsX10_at) := goodIn_app (goodIn_of _ (by decide +kernel)) ggX10_low_X10_at
theorem dX10_low_0 : decode cX10_low 0 = .ok (.lconst 0, 1) := by decide +kernel
theorem dX10_low_1 : decode cX10_low 1 = .ok (.lstore_n 3, 1) := by decide +kernel
theorem dX10_low_2 : decode cX10_low 2 = .ok (.iload_n 2, 1) := by decide +kernel
theorem dX10_low_3 : decode cX10_low 3 = .ok (.iconst 1, 1) := by decide +kernel
theorem dX10_low_4 : decode cX10_low 4 = .ok (.isub, 1) := by decide +kernel
theorem dX10_low_5 : decode cX10_low 5 = .ok (.istore 5, 2) := by decide +kernel
theorem dX10_low_7 : decode cX10_low 7 = .ok (.iload 5, 2) := by decide +kernel
theorem dX10_low_9 : decode cX10_low 9 = .ok (.ifCond .lt 24, 3) := by decide +kernel
theorem dX10_low_12 : decode cX10_low 12 = .ok (.lload_n 3, 1) := by decide +kernel
theorem dX10_low_13 : decode cX10_low 13 = .ok (.bipush 8, 2) := by decide +kernel
theorem dX10_low_15 : decode cX10_low 15 = .ok (.lshl, 1) := by decide +kernel
theorem dX10_low_16 : decode cX10_low 16 = .ok (.aload_n 0, 1) := by decide +kernel
theorem dX10_low_17 : decode cX10_low 17 = .ok (.iload_n 1, 1) := by decide +kernel
theorem dX10_low_18 : decode cX10_low 18 = .ok (.iload 5, 2) := by decide +kernel
theorem dX10_low_20 : decode cX10_low 20 = .ok (.iadd, 1) := by decide +kernel
theorem dX10_low_21 : decode cX10_low 21 = .ok (.invokevirtual 125, 3) := by decide +kernel
theorem dX10_low_24 : decode cX10_low 24 = .ok (.i2l, 1) := by decide +kernel
theorem dX10_low_25 : decode cX10_low 25 = .ok (.lor, 1) := by decide +kernel
theorem dX10_low_26 : decode cX10_low 26 = .ok (.lstore_n 3, 1) := by decide +kernel
theorem dX10_low_27 : decode cX10_low 27 = .ok (.iinc 5 (-1), 3) := by decide +kernel
theorem dX10_low_30 : decode cX10_low 30 = .ok (.goto (-23), 3) := by decide +kernel
theorem dX10_low_33 : decode cX10_low 33 = .ok (.lload_n 3, 1) := by decide +kernel
theorem dX10_low_34 : decode cX10_low 34 = .ok (.lreturn, 1) := by decide +kernel
theorem dX10_begin_0 : decode cX10_begin 0 = .ok (.aload_n 0, 1) := by decide +kernel
theorem dX10_begin_1 : decode cX10_begin 1 = .ok (.iconst 0, 1) := by decide +kernel
theorem dX10_begin_2 : decode cX10_begin 2 = .ok (.putfield 119, 3) := by decide +kernel
theorem dX10_begin_5 : decode cX10_begin 5 = .ok (.aload_n 0, 1) := by decide +kernel
theorem dX10_begin_6 : decode cX10_begin 6 = .ok (.iconst (-1), 1) := by decide +kernel
theorem dX10_begin_7 : decode cX10_begin 7 = .ok (.putfield 122, 3) := by decide +kernel
theorem dX10_begin_10 : decode cX10_begin 10 = .ok (.aload_n 0, 1) := by decide +kernel
theorem dX10_begin_11 : decode cX10_begin 11 = .ok (.iconst 0, 1) := by decide +kernel
theorem dX10_begin_12 : decode cX10_begin 12 = .ok (.putfield 75, 3) := by decide +kernel
theorem dX10_begin_15 : decode cX10_begin 15 = .ok (.aload_n 0, 1) := by decide +kernel
theorem dX10_begin_16 : decode cX10_begin 16 = .ok (.iconst 0, 1) := by decide +kernel
theorem dX10_begin_17 : decode cX10_begin 17 = .ok (.putfield 78, 3) := by decide +kernel
theorem dX10_begin_20 : decode cX10_begin 20 = .ok (.return_, 1) := by decide +kernel
set_option maxRecDepth 20000 in
theorem ggX10_ends_X10_takeList : GoodIn wsX10_ends wsX10_takeList := goodIn_r _ [10, 11, 5, 12, 13, 14, 15, 16, 17, 18, 19, 20, 21, 22, 23, 24, 25, 26, 27, 28, 29, 30, 31, 32, 33, 34, 35, 36, 37, 38, 39, 40, 41, 42, 43, 44, 45, 46, 47, 48, 49, 50, 51, 52, 53, 54, 55, 56, 57, 58, 59, 60, 61, 62, 63, 64, 65] (by decide +kernel) (by decide +kernel)
set_option maxRecDepth 20000 in
theorem gX10_ends_X10_takeList : GoodIn wsX10_ends (wsV RX10 132 RX10 yX10_takeList wsX10_takeList) := goodIn_app (goodIn_of _ (by decide +kernel)) ggX10_ends_X10_takeList
theorem dX10_ends_0 : decode cX10_ends 0 = .ok (.aload_n 0, 1) := by decide +kernel
theorem dX10_ends_1 : decode cX10_ends 1 = .ok (.aload_n 0, 1) := by decide +kernel
theorem dX10_ends_2 : decode cX10_ends 2 = .ok (.getfield 119, 3) := by decide +kernel
theorem dX10_ends_5 : decode cX10_ends 5 = .ok (.putfield 129, 3) := by decide +kernel
theorem dX10_ends_8 : decode cX10_ends 8 = .ok (.aload_n 0, 1) := by decide +kernel
theorem dX10_ends_9 : decode cX10_ends 9 = .ok (.aload_n 0, 1) := by decide +kernel
theorem dX10_ends_10 : decode cX10_ends 10 = .ok (.getfield 122, 3) := by decide +kernel
theorem dX10_ends_13 : decode cX10_ends 13 = .ok (.putfield 39, 3) := by decide +kernel
theorem dX10_ends_16 : decode cX10_ends 16 = .ok (.aload_n 0, 1) := by decide +kernel
theorem dX10_ends_17 : decode cX10_ends 17 = .ok (.getfield 119, 3) := by decide +kernel
theorem dX10_ends_20 : decode cX10_ends 20 = .ok (.ifCond .le 5, 3) := by decide +kernel
theorem dX10_ends_23 : decode cX10_ends 23 = .ok (.iconst (-1), 1) := by decide +kernel
theorem dX10_ends_24 : decode cX10_ends 24 = .ok (.ireturn, 1) := by decide +kernel
theorem dX10_ends_25 : decode cX10_ends 25 = .ok (.aload_n 0, 1) := by decide +kernel
theorem dX10_ends_26 : decode cX10_ends 26 = .ok (.invokevirtual 132, 3) := by decide +kernel
theorem dX10_ends_29 : decode cX10_ends 29 = .ok (.aload_n 0, 1) := by decide +kernel
theorem dX10_ends_30 : decode cX10_ends 30 = .ok (.getfield 69, 3) := by decide +kernel
theorem dX10_ends_33 : decode cX10_ends 33 = .ok (.ireturn, 1) := by decide +kernel
set_option maxRecDepth 20000 in
theorem ggX10_readPages_X10_begin : GoodIn wsX10_readPages wsX10_begin := goodIn_r _ [13, 7, 14, 15, 16, 75, 76, 77, 78, 79, 80, 81, 82, 83, 84, 85, 86, 87, 88, 89, 90, 91, 92, 93, 94, 95, 96, 97, 98, 99, 100, 101, 102, 103, 104, 105, 106, 107, 108, 109, 110, 111, 112, 113, 114, 115, 116, 117, 118, 119, 120] (by decide +kernel) (by decide +kernel)
set_option maxRecDepth 20000 in
theorem gX10_readPages_X10_begin : GoodIn wsX10_readPages (wsV RX10 135 RX10 yX10_begin wsX10_begin) := goodIn_app (goodIn_of _ (by decide +kernel)) ggX10_readPages_X10_begin
set_option maxRecDepth 20000 in
theorem ggX10_readPages_X10_fails : GoodIn wsX10_readPages wsX10_fails := goodIn_r _ [20, 7, 14, 75, 76, 77, 78, 79, 80, 81, 82, 83, 84, 85, 86, 87, 88, 89, 90, 91, 92, 93, 94, 95, 96, 97, 98, 99, 100, 101, 102, 103, 104, 105, 106, 107, 108, 109, 110, 111, 112, 113, 114, 115, 116, 117, 118, 119, 120] (by decide +kernel) (by decide +kernel)
set_option maxRecDepth 20000 in
theorem gX10_readPages_X10_fails : GoodIn wsX10_readPages (wsV RX10 151 RX10 yX10_fails wsX10_fails) := goodIn_app (goodIn_of _ (by decide +kernel)) ggX10_readPages_X10_fails
set_option maxRecDepth 20000 in
theorem ggX10_readPages_X10_page : GoodIn wsX10_readPages wsX10_page := goodIn_r _ [24, 25, 2, 4, 26, 27, 3, 17, 18, 19, 12, 20, 7, 14, 28, 29, 30, 31, 32, 33, 34, 35, 36, 37, 38, 39, 40, 41, 42, 43, 44, 45, 46, 47, 48, 49, 50, 51, 52, 53, 54, 55, 56, 6, 5, 15, 16, 57, 58, 59, 75, 76, 77, 78, 79, 80, 81, 82, 83, 84, 85, 86, 87, 88, 89, 90, 91, 92, 93, 94, 95, 96, 97, 98, 99, 100, 101, 102, 103, 104, 105, 106, 107, 108, 109, 110, 111, 112, 113, 114, 115, 116, 117, 118, 119, 120] (by decide +kernel) (by decide +kernel)
set_option maxRecDepth 20000 in
theorem gX10_readPages_X10_page : GoodIn wsX10_readPages (wsV RX10 155 RX10 yX10_page wsX10_page) := goodIn_app (goodIn_of _ (by decide +kernel)) ggX10_readPages_X10_page
set_option maxRecDepth 20000 in
theorem ggX10_readPages_X10_lengthOf : GoodIn wsX10_readPages wsX10_lengthOf := goodIn_r _ [43, 32, 33, 34, 12, 35, 25, 75, 76, 77, 78, 79, 80, 81, 82, 83, 84, 85, 86, 87, 88, 89, 90, 91, 92, 93, 94, 95, 96, 97, 98, 99, 100, 101, 102, 103, 104, 105, 106, 107, 108, 109, 110, 111, 112, 113, 114, 115, 116, 117, 118, 119, 120] (by decide +kernel) (by decide +kernel)
set_option maxRecDepth 20000 in
theorem gX10_readPages_X10_lengthOf : GoodIn wsX10_readPages (wsV RX10 158 RX10 yX10_lengthOf wsX10_lengthOf) := goodIn_app (goodIn_of _ (by decide +kernel)) ggX10_readPages_X10_lengthOf
set_option maxRecDepth 20000 in
theorem ggX10_readPages_X10_ends : GoodIn wsX10_readPages wsX10_ends := goodIn_r _ [63, 7, 64, 14, 65, 66, 67, 68, 69, 12, 70, 15, 16, 71, 72, 58, 73, 59, 74, 57, 75, 76, 77, 78, 79, 80, 81, 82, 83, 84, 85, 86, 87, 88, 89, 90, 91, 92, 93, 94, 95, 96, 97, 98, 99, 100, 101, 102, 103, 104, 105, 106, 107, 108, 109, 110, 111, 112, 113, 114, 115, 116, 117, 118, 119, 120] (by decide +kernel) (by decide +kernel)
set_option maxRecDepth 20000 in
theorem gX10_readPages_X10_ends : GoodIn wsX10_readPages (wsV RX10 164 RX10 yX10_ends wsX10_ends) := goodIn_app (goodIn_of _ (by decide +kernel)) ggX10_readPages_X10_ends
theorem dX10_readPages_0 : decode cX10_readPages 0 = .ok (.iload_n 1, 1) := by decide +kernel
theorem dX10_readPages_1 : decode cX10_readPages 1 = .ok (.ifCond .lt 11, 3) := by decide +kernel
theorem dX10_readPages_4 : decode cX10_readPages 4 = .ok (.iload_n 1, 1) := by decide +kernel
theorem dX10_readPages_5 : decode cX10_readPages 5 = .ok (.aload_n 0, 1) := by decide +kernel
theorem dX10_readPages_6 : decode cX10_readPages 6 = .ok (.getfield 58, 3) := by decide +kernel
theorem dX10_readPages_9 : decode cX10_readPages 9 = .ok (.if_icmp .le 6, 3) := by decide +kernel
theorem dX10_readPages_12 : decode cX10_readPages 12 = .ok (.bipush (-2), 2) := by decide +kernel
theorem dX10_readPages_14 : decode cX10_readPages 14 = .ok (.ireturn, 1) := by decide +kernel
theorem dX10_readPages_15 : decode cX10_readPages 15 = .ok (.aload_n 0, 1) := by decide +kernel
theorem dX10_readPages_16 : decode cX10_readPages 16 = .ok (.invokevirtual 135, 3) := by decide +kernel
theorem dX10_readPages_19 : decode cX10_readPages 19 = .ok (.aload_n 0, 1) := by decide +kernel
theorem dX10_readPages_20 : decode cX10_readPages 20 = .ok (.iconst 0, 1) := by decide +kernel
theorem dX10_readPages_21 : decode cX10_readPages 21 = .ok (.putfield 138, 3) := by decide +kernel
theorem dX10_readPages_24 : decode cX10_readPages 24 = .ok (.aload_n 0, 1) := by decide +kernel
theorem dX10_readPages_25 : decode cX10_readPages 25 = .ok (.iconst (-1), 1) := by decide +kernel
theorem dX10_readPages_26 : decode cX10_readPages 26 = .ok (.putfield 141, 3) := by decide +kernel
theorem dX10_readPages_29 : decode cX10_readPages 29 = .ok (.aload_n 0, 1) := by decide +kernel
theorem dX10_readPages_30 : decode cX10_readPages 30 = .ok (.iconst 0, 1) := by decide +kernel
theorem dX10_readPages_31 : decode cX10_readPages 31 = .ok (.putfield 144, 3) := by decide +kernel
theorem dX10_readPages_34 : decode cX10_readPages 34 = .ok (.aload_n 0, 1) := by decide +kernel
theorem dX10_readPages_35 : decode cX10_readPages 35 = .ok (.ldc2_w 65, 3) := by decide +kernel
theorem dX10_readPages_38 : decode cX10_readPages 38 = .ok (.putfield 147, 3) := by decide +kernel
theorem dX10_readPages_41 : decode cX10_readPages 41 = .ok (.iconst 0, 1) := by decide +kernel
theorem dX10_readPages_42 : decode cX10_readPages 42 = .ok (.istore_n 2, 1) := by decide +kernel
theorem dX10_readPages_43 : decode cX10_readPages 43 = .ok (.iload_n 1, 1) := by decide +kernel
theorem dX10_readPages_44 : decode cX10_readPages 44 = .ok (.ifCond .ne 10, 3) := by decide +kernel
theorem dX10_readPages_47 : decode cX10_readPages 47 = .ok (.aload_n 0, 1) := by decide +kernel
theorem dX10_readPages_48 : decode cX10_readPages 48 = .ok (.iconst 1, 1) := by decide +kernel
theorem dX10_readPages_49 : decode cX10_readPages 49 = .ok (.iconst 0, 1) := by decide +kernel
theorem dX10_readPages_50 : decode cX10_readPages 50 = .ok (.invokevirtual 151, 3) := by decide +kernel
theorem dX10_readPages_53 : decode cX10_readPages 53 = .ok (.istore_n 3, 1) := by decide +kernel
theorem dX10_readPages_54 : decode cX10_readPages 54 = .ok (.aload_n 0, 1) := by decide +kernel
theorem dX10_readPages_55 : decode cX10_readPages 55 = .ok (.getfield 119, 3) := by decide +kernel
theorem dX10_readPages_58 : decode cX10_readPages 58 = .ok (.ifCond .ne 28, 3) := by decide +kernel
theorem dX10_readPages_61 : decode cX10_readPages 61 = .ok (.iload_n 2, 1) := by decide +kernel
theorem dX10_readPages_62 : decode cX10_readPages 62 = .ok (.iload_n 1, 1) := by decide +kernel
theorem dX10_readPages_63 : decode cX10_readPages 63 = .ok (.if_icmp .ge 23, 3) := by decide +kernel
theorem dX10_readPages_66 : decode cX10_readPages 66 = .ok (.aload_n 0, 1) := by decide +kernel
theorem dX10_readPages_67 : decode cX10_readPages 67 = .ok (.iload_n 2, 1) := by decide +kernel
theorem dX10_readPages_68 : decode cX10_readPages 68 = .ok (.iload_n 1, 1) := by decide +kernel
theorem dX10_readPages_69 : decode cX10_readPages 69 = .ok (.invokevirtual 155, 3) := by decide +kernel
theorem dX10_readPages_72 : decode cX10_readPages 72 = .ok (.ifCond .eq (-18), 3) := by decide +kernel
theorem dX10_readPages_75 : decode cX10_readPages 75 = .ok (.iload_n 2, 1) := by decide +kernel
theorem dX10_readPages_76 : decode cX10_readPages 76 = .ok (.aload_n 0, 1) := by decide +kernel
theorem dX10_readPages_77 : decode cX10_readPages 77 = .ok (.iload_n 2, 1) := by decide +kernel
theorem dX10_readPages_78 : decode cX10_readPages 78 = .ok (.invokevirtual 158, 3) := by decide +kernel
theorem dX10_readPages_81 : decode cX10_readPages 81 = .ok (.iadd, 1) := by decide +kernel
theorem dX10_readPages_82 : decode cX10_readPages 82 = .ok (.istore_n 2, 1) := by decide +kernel
theorem dX10_readPages_83 : decode cX10_readPages 83 = .ok (.goto (-29), 3) := by decide +kernel
theorem dX10_readPages_86 : decode cX10_readPages 86 = .ok (.aload_n 0, 1) := by decide +kernel
theorem dX10_readPages_87 : decode cX10_readPages 87 = .ok (.getfield 119, 3) := by decide +kernel
theorem dX10_readPages_90 : decode cX10_readPages 90 = .ok (.ifCond .ne 17, 3) := by decide +kernel
theorem dX10_readPages_93 : decode cX10_readPages 93 = .ok (.aload_n 0, 1) := by decide +kernel
theorem dX10_readPages_94 : decode cX10_readPages 94 = .ok (.getfield 144, 3) := by decide +kernel
theorem dX10_readPages_97 : decode cX10_readPages 97 = .ok (.ifCond .ne 10, 3) := by decide +kernel
theorem dX10_readPages_100 : decode cX10_readPages 100 = .ok (.aload_n 0, 1) := by decide +kernel
theorem dX10_readPages_101 : decode cX10_readPages 101 = .ok (.iconst 5, 1) := by decide +kernel
theorem dX10_readPages_102 : decode cX10_readPages 102 = .ok (.iload_n 1, 1) := by decide +kernel
theorem dX10_readPages_103 : decode cX10_readPages 103 = .ok (.invokevirtual 151, 3) := by decide +kernel
theorem dX10_readPages_106 : decode cX10_readPages 106 = .ok (.istore_n 3, 1) := by decide +kernel
theorem dX10_readPages_107 : decode cX10_readPages 107 = .ok (.aload_n 0, 1) := by decide +kernel
theorem dX10_readPages_108 : decode cX10_readPages 108 = .ok (.getfield 119, 3) := by decide +kernel
theorem dX10_readPages_111 : decode cX10_readPages 111 = .ok (.ifCond .ne 19, 3) := by decide +kernel
theorem dX10_readPages_114 : decode cX10_readPages 114 = .ok (.aload_n 0, 1) := by decide +kernel
theorem dX10_readPages_115 : decode cX10_readPages 115 = .ok (.getfield 141, 3) := by decide +kernel
theorem dX10_readPages_118 : decode cX10_readPages 118 = .ok (.iconst (-1), 1) := by decide +kernel
theorem dX10_readPages_119 : decode cX10_readPages 119 = .ok (.if_icmp .eq 11, 3) := by decide +kernel
theorem dX10_readPages_122 : decode cX10_readPages 122 = .ok (.aload_n 0, 1) := by decide +kernel
theorem dX10_readPages_123 : decode cX10_readPages 123 = .ok (.bipush 6, 2) := by decide +kernel
theorem dX10_readPages_125 : decode cX10_readPages 125 = .ok (.iload_n 1, 1) := by decide +kernel
theorem dX10_readPages_126 : decode cX10_readPages 126 = .ok (.invokevirtual 151, 3) := by decide +kernel
theorem dX10_readPages_129 : decode cX10_readPages 129 = .ok (.istore_n 3, 1) := by decide +kernel
theorem dX10_readPages_130 : decode cX10_readPages 130 = .ok (.aload_n 0, 1) := by decide +kernel
theorem dX10_readPages_131 : decode cX10_readPages 131 = .ok (.iconst 0, 1) := by decide +kernel
theorem dX10_readPages_132 : decode cX10_readPages 132 = .ok (.putfield 58, 3) := by decide +kernel
theorem dX10_readPages_135 : decode cX10_readPages 135 = .ok (.aload_n 0, 1) := by decide +kernel
theorem dX10_readPages_136 : decode cX10_readPages 136 = .ok (.aload_n 0, 1) := by decide +kernel
theorem dX10_readPages_137 : decode cX10_readPages 137 = .ok (.getfield 119, 3) := by decide +kernel
theorem dX10_readPages_140 : decode cX10_readPages 140 = .ok (.ifCond .ne 10, 3) := by decide +kernel
theorem dX10_readPages_143 : decode cX10_readPages 143 = .ok (.aload_n 0, 1) := by decide +kernel
theorem dX10_readPages_144 : decode cX10_readPages 144 = .ok (.getfield 138, 3) := by decide +kernel
theorem dX10_readPages_147 : decode cX10_readPages 147 = .ok (.goto 4, 3) := by decide +kernel
theorem dX10_readPages_150 : decode cX10_readPages 150 = .ok (.iconst 0, 1) := by decide +kernel
theorem dX10_readPages_151 : decode cX10_readPages 151 = .ok (.putfield 161, 3) := by decide +kernel
theorem dX10_readPages_154 : decode cX10_readPages 154 = .ok (.aload_n 0, 1) := by decide +kernel
theorem dX10_readPages_155 : decode cX10_readPages 155 = .ok (.iload_n 1, 1) := by decide +kernel
theorem dX10_readPages_156 : decode cX10_readPages 156 = .ok (.invokevirtual 164, 3) := by decide +kernel
theorem dX10_readPages_159 : decode cX10_readPages 159 = .ok (.ireturn, 1) := by decide +kernel
set_option maxRecDepth 20000 in
theorem ggX10_lengthOf_X10_at : GoodIn wsX10_lengthOf wsX10_at := goodIn_r _ [5, 6, 7, 8, 9, 10, 11, 12, 13, 14, 15, 16, 17, 18, 19, 20, 21, 22, 23, 24, 25, 26, 27, 28, 29, 30, 31, 32, 33, 34, 35, 36, 37, 38, 39, 40, 41, 42, 43, 44, 45, 46, 47, 48, 49, 50, 51, 52] (by decide +kernel) (by decide +kernel)
set_option maxRecDepth 20000 in
theorem gX10_lengthOf_X10_at : GoodIn wsX10_lengthOf (wsV RX10 125 RX10 yX10_at wsX10_at) := goodIn_app (goodIn_of _ (by decide +kernel)) ggX10_lengthOf_X10_at
theorem dX10_lengthOf_0 : decode cX10_lengthOf 0 = .ok (.bipush 27, 2) := by decide +kernel
theorem dX10_lengthOf_2 : decode cX10_lengthOf 2 = .ok (.aload_n 0, 1) := by decide +kernel
theorem dX10_lengthOf_3 : decode cX10_lengthOf 3 = .ok (.iload_n 1, 1) := by decide +kernel
theorem dX10_lengthOf_4 : decode cX10_lengthOf 4 = .ok (.bipush 26, 2) := by decide +kernel
theorem dX10_lengthOf_6 : decode cX10_lengthOf 6 = .ok (.iadd, 1) := by decide +kernel
theorem dX10_lengthOf_7 : decode cX10_lengthOf 7 = .ok (.invokevirtual 125, 3) := by decide +kernel
theorem dX10_lengthOf_10 : decode cX10_lengthOf 10 = .ok (.iadd, 1) := by decide +kernel
theorem dX10_lengthOf_11 : decode cX10_lengthOf 11 = .ok (.istore_n 2, 1) := by decide +kernel
theorem dX10_lengthOf_12 : decode cX10_lengthOf 12 = .ok (.iconst 0, 1) := by decide +kernel
theorem dX10_lengthOf_13 : decode cX10_lengthOf 13 = .ok (.istore_n 3, 1) := by decide +kernel
theorem dX10_lengthOf_14 : decode cX10_lengthOf 14 = .ok (.iload_n 3, 1) := by decide +kernel
theorem dX10_lengthOf_15 : decode cX10_lengthOf 15 = .ok (.aload_n 0, 1) := by decide +kernel
theorem dX10_lengthOf_16 : decode cX10_lengthOf 16 = .ok (.iload_n 1, 1) := by decide +kernel
theorem dX10_lengthOf_17 : decode cX10_lengthOf 17 = .ok (.bipush 26, 2) := by decide +kernel
theorem dX10_lengthOf_19 : decode cX10_lengthOf 19 = .ok (.iadd, 1) := by decide +kernel
theorem dX10_lengthOf_20 : decode cX10_lengthOf 20 = .ok (.invokevirtual 125, 3) := by decide +kernel
theorem dX10_lengthOf_23 : decode cX10_lengthOf 23 = .ok (.if_icmp .ge 22, 3) := by decide +kernel
theorem dX10_lengthOf_26 : decode cX10_lengthOf 26 = .ok (.iload_n 2, 1) := by decide +kernel
theorem dX10_lengthOf_27 : decode cX10_lengthOf 27 = .ok (.aload_n 0, 1) := by decide +kernel
theorem dX10_lengthOf_28 : decode cX10_lengthOf 28 = .ok (.iload_n 1, 1) := by decide +kernel
theorem dX10_lengthOf_29 : decode cX10_lengthOf 29 = .ok (.bipush 27, 2) := by decide +kernel
theorem dX10_lengthOf_31 : decode cX10_lengthOf 31 = .ok (.iadd, 1) := by decide +kernel
theorem dX10_lengthOf_32 : decode cX10_lengthOf 32 = .ok (.iload_n 3, 1) := by decide +kernel
theorem dX10_lengthOf_33 : decode cX10_lengthOf 33 = .ok (.iadd, 1) := by decide +kernel
theorem dX10_lengthOf_34 : decode cX10_lengthOf 34 = .ok (.invokevirtual 125, 3) := by decide +kernel
theorem dX10_lengthOf_37 : decode cX10_lengthOf 37 = .ok (.iadd, 1) := by decide +kernel
theorem dX10_lengthOf_38 : decode cX10_lengthOf 38 = .ok (.istore_n 2, 1) := by decide +kernel
theorem dX10_lengthOf_39 : decode cX10_lengthOf 39 = .ok (.iinc 3 1, 3) := by decide +kernel
theorem dX10_lengthOf_42 : decode cX10_lengthOf 42 = .ok (.goto (-28), 3) := by decide +kernel
theorem dX10_lengthOf_45 : decode cX10_lengthOf 45 = .ok (.iload_n 2, 1) := by decide +kernel
theorem dX10_lengthOf_46 : decode cX10_lengthOf 46 = .ok (.ireturn, 1) := by decide +kernel
set_option maxRecDepth 20000 in
theorem ggX10_isMark_X10_at : GoodIn wsX10_isMark wsX10_at := goodIn_r _ [5, 6, 7, 8, 9, 10, 11, 12, 13, 14, 15, 16, 17, 18, 19, 20, 21, 22, 23, 24, 25, 26, 27, 28, 29, 30, 31, 32, 33, 34, 35, 36, 37, 38, 39, 40, 41, 42, 43, 44, 45, 46, 47, 48, 49, 50, 51, 52] (by decide +kernel) (by decide +kernel)
set_option maxRecDepth 20000 in
theorem gX10_isMark_X10_at : GoodIn wsX10_isMark (wsV RX10 125 RX10 yX10_at wsX10_at) := goodIn_app (goodIn_of _ (by decide +kernel)) ggX10_isMark_X10_at
theorem dX10_isMark_0 : decode cX10_isMark 0 = .ok (.aload_n 0, 1) := by decide +kernel
theorem dX10_isMark_1 : decode cX10_isMark 1 = .ok (.iload_n 1, 1) := by decide +kernel
theorem dX10_isMark_2 : decode cX10_isMark 2 = .ok (.invokevirtual 125, 3) := by decide +kernel
theorem dX10_isMark_5 : decode cX10_isMark 5 = .ok (.bipush 79, 2) := by decide +kernel
theorem dX10_isMark_7 : decode cX10_isMark 7 = .ok (.if_icmp .ne 43, 3) := by decide +kernel
theorem dX10_isMark_10 : decode cX10_isMark 10 = .ok (.aload_n 0, 1) := by decide +kernel
theorem dX10_isMark_11 : decode cX10_isMark 11 = .ok (.iload_n 1, 1) := by decide +kernel
theorem dX10_isMark_12 : decode cX10_isMark 12 = .ok (.iconst 1, 1) := by decide +kernel
theorem dX10_isMark_13 : decode cX10_isMark 13 = .ok (.iadd, 1) := by decide +kernel
theorem dX10_isMark_14 : decode cX10_isMark 14 = .ok (.invokevirtual 125, 3) := by decide +kernel
theorem dX10_isMark_17 : decode cX10_isMark 17 = .ok (.bipush 103, 2) := by decide +kernel
theorem dX10_isMark_19 : decode cX10_isMark 19 = .ok (.if_icmp .ne 31, 3) := by decide +kernel
theorem dX10_isMark_22 : decode cX10_isMark 22 = .ok (.aload_n 0, 1) := by decide +kernel
theorem dX10_isMark_23 : decode cX10_isMark 23 = .ok (.iload_n 1, 1) := by decide +kernel
theorem dX10_isMark_24 : decode cX10_isMark 24 = .ok (.iconst 2, 1) := by decide +kernel
theorem dX10_isMark_25 : decode cX10_isMark 25 = .ok (.iadd, 1) := by decide +kernel
theorem dX10_isMark_26 : decode cX10_isMark 26 = .ok (.invokevirtual 125, 3) := by decide +kernel
theorem dX10_isMark_29 : decode cX10_isMark 29 = .ok (.bipush 103, 2) := by decide +kernel
theorem dX10_isMark_31 : decode cX10_isMark 31 = .ok (.if_icmp .ne 19, 3) := by decide +kernel
theorem dX10_isMark_34 : decode cX10_isMark 34 = .ok (.aload_n 0, 1) := by decide +kernel
theorem dX10_isMark_35 : decode cX10_isMark 35 = .ok (.iload_n 1, 1) := by decide +kernel
theorem dX10_isMark_36 : decode cX10_isMark 36 = .ok (.iconst 3, 1) := by decide +kernel
theorem dX10_isMark_37 : decode cX10_isMark 37 = .ok (.iadd, 1) := by decide +kernel
theorem dX10_isMark_38 : decode cX10_isMark 38 = .ok (.invokevirtual 125, 3) := by decide +kernel
theorem dX10_isMark_41 : decode cX10_isMark 41 = .ok (.bipush 83, 2) := by decide +kernel
theorem dX10_isMark_43 : decode cX10_isMark 43 = .ok (.if_icmp .ne 7, 3) := by decide +kernel
theorem dX10_isMark_46 : decode cX10_isMark 46 = .ok (.iconst 1, 1) := by decide +kernel
theorem dX10_isMark_47 : decode cX10_isMark 47 = .ok (.goto 4, 3) := by decide +kernel
theorem dX10_isMark_50 : decode cX10_isMark 50 = .ok (.iconst 0, 1) := by decide +kernel
theorem dX10_isMark_51 : decode cX10_isMark 51 = .ok (.ireturn, 1) := by decide +kernel
set_option maxRecDepth 20000 in
theorem ggX10_isWhole_X10_at : GoodIn wsX10_isWhole wsX10_at := goodIn_r _ [5, 6, 11, 12, 13, 14, 15, 16, 17, 18, 19, 20, 21, 22, 23, 24, 25, 26, 27, 28, 29, 30, 31, 32, 33, 34, 35, 36, 37, 38, 39, 40, 41, 42, 43, 44, 45, 46, 47, 48, 49, 50, 51, 52, 53, 54, 55, 56] (by decide +kernel) (by decide +kernel)
set_option maxRecDepth 20000 in
theorem gX10_isWhole_X10_at : GoodIn wsX10_isWhole (wsV RX10 125 RX10 yX10_at wsX10_at) := goodIn_app (goodIn_of _ (by decide +kernel)) ggX10_isWhole_X10_at
set_option maxRecDepth 20000 in
theorem ggX10_isWhole_X10_lengthOf : GoodIn wsX10_isWhole wsX10_lengthOf := goodIn_r _ [10, 1, 2, 3, 4, 5, 6, 11, 12, 13, 14, 15, 16, 17, 18, 19, 20, 21, 22, 23, 24, 25, 26, 27, 28, 29, 30, 31, 32, 33, 34, 35, 36, 37, 38, 39, 40, 41, 42, 43, 44, 45, 46, 47, 48, 49, 50, 51, 52, 53, 54, 55, 56] (by decide +kernel) (by decide +kernel)
set_option maxRecDepth 20000 in
theorem gX10_isWhole_X10_lengthOf : GoodIn wsX10_isWhole (wsV RX10 158 RX10 yX10_lengthOf wsX10_lengthOf) := goodIn_app (goodIn_of _ (by decide +kernel)) ggX10_isWhole_X10_lengthOf
theorem dX10_isWhole_0 : decode cX10_isWhole 0 = .ok (.iload_n 1, 1) := by decide +kernel
