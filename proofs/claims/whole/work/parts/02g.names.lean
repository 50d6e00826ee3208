theorem dX10_elements__260 : decode cX10_elements_ 260 = .ok (.iload 16, 2) := by decide +kernel
theorem dX10_elements__262 : decode cX10_elements_ 262 = .ok (.invokevirtual 310, 3) := by decide +kernel
theorem dX10_elements__265 : decode cX10_elements_ 265 = .ok (.iconst 1, 1) := by decide +kernel
theorem dX10_elements__266 : decode cX10_elements_ 266 = .ok (.istore 16, 2) := by decide +kernel
theorem dX10_elements__268 : decode cX10_elements_ 268 = .ok (.iload_n 1, 1) := by decide +kernel
theorem dX10_elements__269 : decode cX10_elements_ 269 = .ok (.ifCond .le 52, 3) := by decide +kernel
theorem dX10_elements__272 : decode cX10_elements_ 272 = .ok (.iload 16, 2) := by decide +kernel
theorem dX10_elements__274 : decode cX10_elements_ 274 = .ok (.iload_n 2, 1) := by decide +kernel
theorem dX10_elements__275 : decode cX10_elements_ 275 = .ok (.if_icmp .ge 46, 3) := by decide +kernel
theorem dX10_elements__278 : decode cX10_elements_ 278 = .ok (.iload 6, 2) := by decide +kernel
theorem dX10_elements__280 : decode cX10_elements_ 280 = .ok (.iload 16, 2) := by decide +kernel
theorem dX10_elements__282 : decode cX10_elements_ 282 = .ok (.iadd, 1) := by decide +kernel
theorem dX10_elements__283 : decode cX10_elements_ 283 = .ok (.aload_n 0, 1) := by decide +kernel
theorem dX10_elements__284 : decode cX10_elements_ 284 = .ok (.getfield 69, 3) := by decide +kernel
theorem dX10_elements__287 : decode cX10_elements_ 287 = .ok (.if_icmp .ge 34, 3) := by decide +kernel
theorem dX10_elements__290 : decode cX10_elements_ 290 = .ok (.iload_n 1, 1) := by decide +kernel
theorem dX10_elements__291 : decode cX10_elements_ 291 = .ok (.iconst 2, 1) := by decide +kernel
theorem dX10_elements__292 : decode cX10_elements_ 292 = .ok (.if_icmp .ne 23, 3) := by decide +kernel
theorem dX10_elements__295 : decode cX10_elements_ 295 = .ok (.aload_n 0, 1) := by decide +kernel
theorem dX10_elements__296 : decode cX10_elements_ 296 = .ok (.getfield 19, 3) := by decide +kernel
theorem dX10_elements__299 : decode cX10_elements_ 299 = .ok (.iload 6, 2) := by decide +kernel
theorem dX10_elements__301 : decode cX10_elements_ 301 = .ok (.iload 16, 2) := by decide +kernel
theorem dX10_elements__303 : decode cX10_elements_ 303 = .ok (.iadd, 1) := by decide +kernel
theorem dX10_elements__304 : decode cX10_elements_ 304 = .ok (.iaload, 1) := by decide +kernel
theorem dX10_elements__305 : decode cX10_elements_ 305 = .ok (.aload_n 0, 1) := by decide +kernel
theorem dX10_elements__306 : decode cX10_elements_ 306 = .ok (.getfield 19, 3) := by decide +kernel
theorem dX10_elements__309 : decode cX10_elements_ 309 = .ok (.iload 6, 2) := by decide +kernel
theorem dX10_elements__311 : decode cX10_elements_ 311 = .ok (.iaload, 1) := by decide +kernel
theorem dX10_elements__312 : decode cX10_elements_ 312 = .ok (.if_icmp .ne 9, 3) := by decide +kernel
theorem dX10_elements__315 : decode cX10_elements_ 315 = .ok (.iinc 16 1, 3) := by decide +kernel
theorem dX10_elements__318 : decode cX10_elements_ 318 = .ok (.goto (-50), 3) := by decide +kernel
theorem dX10_elements__321 : decode cX10_elements_ 321 = .ok (.aload_n 0, 1) := by decide +kernel
theorem dX10_elements__322 : decode cX10_elements_ 322 = .ok (.iload 6, 2) := by decide +kernel
theorem dX10_elements__324 : decode cX10_elements_ 324 = .ok (.iload 16, 2) := by decide +kernel
theorem dX10_elements__326 : decode cX10_elements_ 326 = .ok (.iload 7, 2) := by decide +kernel
theorem dX10_elements__328 : decode cX10_elements_ 328 = .ok (.lload 12, 2) := by decide +kernel
theorem dX10_elements__330 : decode cX10_elements_ 330 = .ok (.lload 10, 2) := by decide +kernel
theorem dX10_elements__332 : decode cX10_elements_ 332 = .ok (.lsub, 1) := by decide +kernel
theorem dX10_elements__333 : decode cX10_elements_ 333 = .ok (.l2i, 1) := by decide +kernel
theorem dX10_elements__334 : decode cX10_elements_ 334 = .ok (.iload 16, 2) := by decide +kernel
theorem dX10_elements__336 : decode cX10_elements_ 336 = .ok (.iconst 1, 1) := by decide +kernel
theorem dX10_elements__337 : decode cX10_elements_ 337 = .ok (.if_icmp .le 7, 3) := by decide +kernel
theorem dX10_elements__340 : decode cX10_elements_ 340 = .ok (.iload_n 1, 1) := by decide +kernel
theorem dX10_elements__341 : decode cX10_elements_ 341 = .ok (.goto 4, 3) := by decide +kernel
theorem dX10_elements__344 : decode cX10_elements_ 344 = .ok (.iconst 0, 1) := by decide +kernel
theorem dX10_elements__345 : decode cX10_elements_ 345 = .ok (.invokevirtual 330, 3) := by decide +kernel
theorem dX10_elements__348 : decode cX10_elements_ 348 = .ok (.iconst 0, 1) := by decide +kernel
theorem dX10_elements__349 : decode cX10_elements_ 349 = .ok (.istore 17, 2) := by decide +kernel
theorem dX10_elements__351 : decode cX10_elements_ 351 = .ok (.iload 17, 2) := by decide +kernel
theorem dX10_elements__353 : decode cX10_elements_ 353 = .ok (.iload 16, 2) := by decide +kernel
theorem dX10_elements__355 : decode cX10_elements_ 355 = .ok (.if_icmp .ge 24, 3) := by decide +kernel
theorem dX10_elements__358 : decode cX10_elements_ 358 = .ok (.iload 7, 2) := by decide +kernel
theorem dX10_elements__360 : decode cX10_elements_ 360 = .ok (.aload_n 0, 1) := by decide +kernel
theorem dX10_elements__361 : decode cX10_elements_ 361 = .ok (.getfield 19, 3) := by decide +kernel
theorem dX10_elements__364 : decode cX10_elements_ 364 = .ok (.iload 6, 2) := by decide +kernel
theorem dX10_elements__366 : decode cX10_elements_ 366 = .ok (.iload 17, 2) := by decide +kernel
theorem dX10_elements__368 : decode cX10_elements_ 368 = .ok (.iadd, 1) := by decide +kernel
theorem dX10_elements__369 : decode cX10_elements_ 369 = .ok (.iaload, 1) := by decide +kernel
theorem dX10_elements__370 : decode cX10_elements_ 370 = .ok (.iadd, 1) := by decide +kernel
theorem dX10_elements__371 : decode cX10_elements_ 371 = .ok (.istore 7, 2) := by decide +kernel
theorem dX10_elements__373 : decode cX10_elements_ 373 = .ok (.iinc 17 1, 3) := by decide +kernel
theorem dX10_elements__376 : decode cX10_elements_ 376 = .ok (.goto (-25), 3) := by decide +kernel
theorem dX10_elements__379 : decode cX10_elements_ 379 = .ok (.iload 6, 2) := by decide +kernel
theorem dX10_elements__381 : decode cX10_elements_ 381 = .ok (.iload 16, 2) := by decide +kernel
theorem dX10_elements__383 : decode cX10_elements_ 383 = .ok (.iadd, 1) := by decide +kernel
theorem dX10_elements__384 : decode cX10_elements_ 384 = .ok (.istore 6, 2) := by decide +kernel
theorem dX10_elements__386 : decode cX10_elements_ 386 = .ok (.iinc 9 1, 3) := by decide +kernel
theorem dX10_elements__389 : decode cX10_elements_ 389 = .ok (.goto (-269), 3) := by decide +kernel
theorem dX10_elements__392 : decode cX10_elements_ 392 = .ok (.iload 8, 2) := by decide +kernel
theorem dX10_elements__394 : decode cX10_elements_ 394 = .ok (.iconst (-1), 1) := by decide +kernel
theorem dX10_elements__395 : decode cX10_elements_ 395 = .ok (.if_icmp .eq 11, 3) := by decide +kernel
theorem dX10_elements__398 : decode cX10_elements_ 398 = .ok (.aload_n 0, 1) := by decide +kernel
theorem dX10_elements__399 : decode cX10_elements_ 399 = .ok (.iload 8, 2) := by decide +kernel
theorem dX10_elements__401 : decode cX10_elements_ 401 = .ok (.iload 4, 2) := by decide +kernel
theorem dX10_elements__403 : decode cX10_elements_ 403 = .ok (.invokevirtual 324, 3) := by decide +kernel
theorem dX10_elements__406 : decode cX10_elements_ 406 = .ok (.aload_n 0, 1) := by decide +kernel
theorem dX10_elements__407 : decode cX10_elements_ 407 = .ok (.iload 5, 2) := by decide +kernel
theorem dX10_elements__409 : decode cX10_elements_ 409 = .ok (.iload 4, 2) := by decide +kernel
theorem dX10_elements__411 : decode cX10_elements_ 411 = .ok (.invokevirtual 324, 3) := by decide +kernel
theorem dX10_elements__414 : decode cX10_elements_ 414 = .ok (.aload_n 0, 1) := by decide +kernel
theorem dX10_elements__415 : decode cX10_elements_ 415 = .ok (.invokevirtual 115, 3) := by decide +kernel
theorem dX10_elements__418 : decode cX10_elements_ 418 = .ok (.ireturn, 1) := by decide +kernel
theorem dX10_signedLength_0 : decode cX10_signedLength 0 = .ok (.iconst 1, 1) := by decide +kernel
theorem dX10_signedLength_1 : decode cX10_signedLength 1 = .ok (.istore_n 2, 1) := by decide +kernel
theorem dX10_signedLength_2 : decode cX10_signedLength 2 = .ok (.lload_n 0, 1) := by decide +kernel
theorem dX10_signedLength_3 : decode cX10_signedLength 3 = .ok (.lconst 1, 1) := by decide +kernel
theorem dX10_signedLength_4 : decode cX10_signedLength 4 = .ok (.bipush 7, 2) := by decide +kernel
theorem dX10_signedLength_6 : decode cX10_signedLength 6 = .ok (.iload_n 2, 1) := by decide +kernel
theorem dX10_signedLength_7 : decode cX10_signedLength 7 = .ok (.imul, 1) := by decide +kernel
theorem dX10_signedLength_8 : decode cX10_signedLength 8 = .ok (.iconst 1, 1) := by decide +kernel
theorem dX10_signedLength_9 : decode cX10_signedLength 9 = .ok (.isub, 1) := by decide +kernel
theorem dX10_signedLength_10 : decode cX10_signedLength 10 = .ok (.lshl, 1) := by decide +kernel
theorem dX10_signedLength_11 : decode cX10_signedLength 11 = .ok (.lconst 1, 1) := by decide +kernel
theorem dX10_signedLength_12 : decode cX10_signedLength 12 = .ok (.lsub, 1) := by decide +kernel
theorem dX10_signedLength_13 : decode cX10_signedLength 13 = .ok (.lcmp, 1) := by decide +kernel
theorem dX10_signedLength_14 : decode cX10_signedLength 14 = .ok (.ifCond .gt 18, 3) := by decide +kernel
theorem dX10_signedLength_17 : decode cX10_signedLength 17 = .ok (.lload_n 0, 1) := by decide +kernel
theorem dX10_signedLength_18 : decode cX10_signedLength 18 = .ok (.lconst 1, 1) := by decide +kernel
theorem dX10_signedLength_19 : decode cX10_signedLength 19 = .ok (.lconst 1, 1) := by decide +kernel
theorem dX10_signedLength_20 : decode cX10_signedLength 20 = .ok (.bipush 7, 2) := by decide +kernel
theorem dX10_signedLength_22 : decode cX10_signedLength 22 = .ok (.iload_n 2, 1) := by decide +kernel
theorem dX10_signedLength_23 : decode cX10_signedLength 23 = .ok (.imul, 1) := by decide +kernel
theorem dX10_signedLength_24 : decode cX10_signedLength 24 = .ok (.iconst 1, 1) := by decide +kernel
theorem dX10_signedLength_25 : decode cX10_signedLength 25 = .ok (.isub, 1) := by decide +kernel
theorem dX10_signedLength_26 : decode cX10_signedLength 26 = .ok (.lshl, 1) := by decide +kernel
theorem dX10_signedLength_27 : decode cX10_signedLength 27 = .ok (.lsub, 1) := by decide +kernel
theorem dX10_signedLength_28 : decode cX10_signedLength 28 = .ok (.lcmp, 1) := by decide +kernel
theorem dX10_signedLength_29 : decode cX10_signedLength 29 = .ok (.ifCond .ge 9, 3) := by decide +kernel
theorem dX10_signedLength_32 : decode cX10_signedLength 32 = .ok (.iinc 2 1, 3) := by decide +kernel
theorem dX10_signedLength_35 : decode cX10_signedLength 35 = .ok (.goto (-33), 3) := by decide +kernel
theorem dX10_signedLength_38 : decode cX10_signedLength 38 = .ok (.iload_n 2, 1) := by decide +kernel
theorem dX10_signedLength_39 : decode cX10_signedLength 39 = .ok (.ireturn, 1) := by decide +kernel
set_option maxRecDepth 20000 in
theorem ggX10_putBlock_X10_sizeLength : GoodIn wsX10_putBlock wsX10_sizeLength := goodIn_r _ [7] (by decide +kernel) (by decide +kernel)
set_option maxRecDepth 20000 in
theorem gX10_putBlock_X10_sizeLength : GoodIn wsX10_putBlock (va_wsS RX10 306 yX10_sizeLength wsX10_sizeLength) := goodIn_app (goodIn_of _ (by decide +kernel)) ggX10_putBlock_X10_sizeLength
set_option maxRecDepth 20000 in
theorem ggX10_putBlock_X10_signedLength : GoodIn wsX10_putBlock wsX10_signedLength := goodIn_r _ [10] (by decide +kernel) (by decide +kernel)
set_option maxRecDepth 20000 in
theorem gX10_putBlock_X10_signedLength : GoodIn wsX10_putBlock (va_wsS RX10 334 yX10_signedLength wsX10_signedLength) := goodIn_app (goodIn_of _ (by decide +kernel)) ggX10_putBlock_X10_signedLength
set_option maxRecDepth 20000 in
theorem ggX10_putBlock_X10_put : GoodIn wsX10_putBlock wsX10_put := goodIn_r _ [14, 15, 16, 17, 26, 27, 28, 29, 30, 31, 32, 33, 34, 35, 36, 37, 38, 39, 40, 41, 42, 43, 44, 45, 46, 47, 48, 49, 50, 51, 52, 53, 54, 55, 56, 57, 58, 59, 60, 61, 62, 63, 64, 65, 66, 67, 68, 69, 70, 71] (by decide +kernel) (by decide +kernel)
set_option maxRecDepth 20000 in
theorem gX10_putBlock_X10_put : GoodIn wsX10_putBlock (wsV RX10 88 RX10 yX10_put wsX10_put) := goodIn_app (goodIn_of _ (by decide +kernel)) ggX10_putBlock_X10_put
set_option maxRecDepth 20000 in
theorem ggX10_putBlock_X10_putSize : GoodIn wsX10_putBlock wsX10_putSize := goodIn_r _ [21, 4, 5, 6, 7, 22, 23, 24, 25, 11, 12, 13, 14, 15, 16, 17, 26, 27, 28, 29, 30, 31, 32, 33, 34, 35, 36, 37, 38, 39, 40, 41, 42, 43, 44, 45, 46, 47, 48, 49, 50, 51, 52, 53, 54, 55, 56, 57, 58, 59, 60, 61, 62, 63, 64, 65, 66, 67, 68, 69, 70, 71] (by decide +kernel) (by decide +kernel)
set_option maxRecDepth 20000 in
theorem gX10_putBlock_X10_putSize : GoodIn wsX10_putBlock (wsV RX10 337 RX10 yX10_putSize wsX10_putSize) := goodIn_app (goodIn_of _ (by decide +kernel)) ggX10_putBlock_X10_putSize
set_option maxRecDepth 20000 in
theorem ggX10_putBlock_X10_putHigh : GoodIn wsX10_putBlock wsX10_putHigh := goodIn_r _ [25, 11, 12, 13, 6, 14, 15, 16, 17, 26, 27, 28, 29, 30, 31, 32, 33, 34, 35, 36, 37, 38, 39, 40, 41, 42, 43, 44, 45, 46, 47, 48, 49, 50, 51, 52, 53, 54, 55, 56, 57, 58, 59, 60, 61, 62, 63, 64, 65, 66, 67, 68, 69, 70, 71] (by decide +kernel) (by decide +kernel)
set_option maxRecDepth 20000 in
theorem gX10_putBlock_X10_putHigh : GoodIn wsX10_putBlock (wsV RX10 310 RX10 yX10_putHigh wsX10_putHigh) := goodIn_app (goodIn_of _ (by decide +kernel)) ggX10_putBlock_X10_putHigh
theorem dX10_putBlock_0 : decode cX10_putBlock 0 = .ok (.ldc2_w 268, 3) := by decide +kernel
theorem dX10_putBlock_3 : decode cX10_putBlock 3 = .ok (.iload 5, 2) := by decide +kernel
theorem dX10_putBlock_5 : decode cX10_putBlock 5 = .ok (.ifCond .le 7, 3) := by decide +kernel
theorem dX10_putBlock_8 : decode cX10_putBlock 8 = .ok (.lconst 1, 1) := by decide +kernel
theorem dX10_putBlock_9 : decode cX10_putBlock 9 = .ok (.goto 4, 3) := by decide +kernel
theorem dX10_putBlock_12 : decode cX10_putBlock 12 = .ok (.lconst 0, 1) := by decide +kernel
theorem dX10_putBlock_13 : decode cX10_putBlock 13 = .ok (.ladd, 1) := by decide +kernel
theorem dX10_putBlock_14 : decode cX10_putBlock 14 = .ok (.lstore 6, 2) := by decide +kernel
theorem dX10_putBlock_16 : decode cX10_putBlock 16 = .ok (.iconst 0, 1) := by decide +kernel
theorem dX10_putBlock_17 : decode cX10_putBlock 17 = .ok (.istore 8, 2) := by decide +kernel
theorem dX10_putBlock_19 : decode cX10_putBlock 19 = .ok (.iload 8, 2) := by decide +kernel
theorem dX10_putBlock_21 : decode cX10_putBlock 21 = .ok (.iload_n 2, 1) := by decide +kernel
theorem dX10_putBlock_22 : decode cX10_putBlock 22 = .ok (.if_icmp .ge 118, 3) := by decide +kernel
theorem dX10_putBlock_25 : decode cX10_putBlock 25 = .ok (.lload 6, 2) := by decide +kernel
theorem dX10_putBlock_27 : decode cX10_putBlock 27 = .ok (.aload_n 0, 1) := by decide +kernel
theorem dX10_putBlock_28 : decode cX10_putBlock 28 = .ok (.getfield 19, 3) := by decide +kernel
theorem dX10_putBlock_31 : decode cX10_putBlock 31 = .ok (.iload_n 1, 1) := by decide +kernel
theorem dX10_putBlock_32 : decode cX10_putBlock 32 = .ok (.iload 8, 2) := by decide +kernel
theorem dX10_putBlock_34 : decode cX10_putBlock 34 = .ok (.iadd, 1) := by decide +kernel
theorem dX10_putBlock_35 : decode cX10_putBlock 35 = .ok (.iaload, 1) := by decide +kernel
theorem dX10_putBlock_36 : decode cX10_putBlock 36 = .ok (.i2l, 1) := by decide +kernel
theorem dX10_putBlock_37 : decode cX10_putBlock 37 = .ok (.ladd, 1) := by decide +kernel
theorem dX10_putBlock_38 : decode cX10_putBlock 38 = .ok (.lstore 6, 2) := by decide +kernel
theorem dX10_putBlock_40 : decode cX10_putBlock 40 = .ok (.iload 8, 2) := by decide +kernel
theorem dX10_putBlock_42 : decode cX10_putBlock 42 = .ok (.iload_n 2, 1) := by decide +kernel
theorem dX10_putBlock_43 : decode cX10_putBlock 43 = .ok (.iconst 1, 1) := by decide +kernel
theorem dX10_putBlock_44 : decode cX10_putBlock 44 = .ok (.isub, 1) := by decide +kernel
theorem dX10_putBlock_45 : decode cX10_putBlock 45 = .ok (.if_icmp .ne 6, 3) := by decide +kernel
theorem dX10_putBlock_48 : decode cX10_putBlock 48 = .ok (.goto 86, 3) := by decide +kernel
theorem dX10_putBlock_51 : decode cX10_putBlock 51 = .ok (.iload 5, 2) := by decide +kernel
theorem dX10_putBlock_53 : decode cX10_putBlock 53 = .ok (.iconst 1, 1) := by decide +kernel
theorem dX10_putBlock_54 : decode cX10_putBlock 54 = .ok (.if_icmp .ne 24, 3) := by decide +kernel
theorem dX10_putBlock_57 : decode cX10_putBlock 57 = .ok (.lload 6, 2) := by decide +kernel
theorem dX10_putBlock_59 : decode cX10_putBlock 59 = .ok (.aload_n 0, 1) := by decide +kernel
theorem dX10_putBlock_60 : decode cX10_putBlock 60 = .ok (.getfield 19, 3) := by decide +kernel
theorem dX10_putBlock_63 : decode cX10_putBlock 63 = .ok (.iload_n 1, 1) := by decide +kernel
theorem dX10_putBlock_64 : decode cX10_putBlock 64 = .ok (.iload 8, 2) := by decide +kernel
theorem dX10_putBlock_66 : decode cX10_putBlock 66 = .ok (.iadd, 1) := by decide +kernel
theorem dX10_putBlock_67 : decode cX10_putBlock 67 = .ok (.iaload, 1) := by decide +kernel
theorem dX10_putBlock_68 : decode cX10_putBlock 68 = .ok (.sipush 255, 3) := by decide +kernel
theorem dX10_putBlock_71 : decode cX10_putBlock 71 = .ok (.idiv, 1) := by decide +kernel
theorem dX10_putBlock_72 : decode cX10_putBlock 72 = .ok (.i2l, 1) := by decide +kernel
theorem dX10_putBlock_73 : decode cX10_putBlock 73 = .ok (.lconst 1, 1) := by decide +kernel
theorem dX10_putBlock_74 : decode cX10_putBlock 74 = .ok (.ladd, 1) := by decide +kernel
theorem dX10_putBlock_75 : decode cX10_putBlock 75 = .ok (.ladd, 1) := by decide +kernel
theorem dX10_putBlock_76 : decode cX10_putBlock 76 = .ok (.lstore 6, 2) := by decide +kernel
theorem dX10_putBlock_78 : decode cX10_putBlock 78 = .ok (.iload 5, 2) := by decide +kernel
theorem dX10_putBlock_80 : decode cX10_putBlock 80 = .ok (.iconst 3, 1) := by decide +kernel
theorem dX10_putBlock_81 : decode cX10_putBlock 81 = .ok (.if_icmp .ne 53, 3) := by decide +kernel
theorem dX10_putBlock_84 : decode cX10_putBlock 84 = .ok (.lload 6, 2) := by decide +kernel
theorem dX10_putBlock_86 : decode cX10_putBlock 86 = .ok (.iload 8, 2) := by decide +kernel
theorem dX10_putBlock_88 : decode cX10_putBlock 88 = .ok (.ifCond .ne 17, 3) := by decide +kernel
theorem dX10_putBlock_91 : decode cX10_putBlock 91 = .ok (.aload_n 0, 1) := by decide +kernel
theorem dX10_putBlock_92 : decode cX10_putBlock 92 = .ok (.getfield 19, 3) := by decide +kernel
theorem dX10_putBlock_95 : decode cX10_putBlock 95 = .ok (.iload_n 1, 1) := by decide +kernel
theorem dX10_putBlock_96 : decode cX10_putBlock 96 = .ok (.iaload, 1) := by decide +kernel
theorem dX10_putBlock_97 : decode cX10_putBlock 97 = .ok (.i2l, 1) := by decide +kernel
theorem dX10_putBlock_98 : decode cX10_putBlock 98 = .ok (.invokestatic 306, 3) := by decide +kernel
theorem dX10_putBlock_101 : decode cX10_putBlock 101 = .ok (.i2l, 1) := by decide +kernel
theorem dX10_putBlock_102 : decode cX10_putBlock 102 = .ok (.goto 29, 3) := by decide +kernel
theorem dX10_putBlock_105 : decode cX10_putBlock 105 = .ok (.aload_n 0, 1) := by decide +kernel
theorem dX10_putBlock_106 : decode cX10_putBlock 106 = .ok (.getfield 19, 3) := by decide +kernel
theorem dX10_putBlock_109 : decode cX10_putBlock 109 = .ok (.iload_n 1, 1) := by decide +kernel
theorem dX10_putBlock_110 : decode cX10_putBlock 110 = .ok (.iload 8, 2) := by decide +kernel
theorem dX10_putBlock_112 : decode cX10_putBlock 112 = .ok (.iadd, 1) := by decide +kernel
theorem dX10_putBlock_113 : decode cX10_putBlock 113 = .ok (.iaload, 1) := by decide +kernel
theorem dX10_putBlock_114 : decode cX10_putBlock 114 = .ok (.aload_n 0, 1) := by decide +kernel
theorem dX10_putBlock_115 : decode cX10_putBlock 115 = .ok (.getfield 19, 3) := by decide +kernel
theorem dX10_putBlock_118 : decode cX10_putBlock 118 = .ok (.iload_n 1, 1) := by decide +kernel
theorem dX10_putBlock_119 : decode cX10_putBlock 119 = .ok (.iload 8, 2) := by decide +kernel
theorem dX10_putBlock_121 : decode cX10_putBlock 121 = .ok (.iadd, 1) := by decide +kernel
theorem dX10_putBlock_122 : decode cX10_putBlock 122 = .ok (.iconst 1, 1) := by decide +kernel
theorem dX10_putBlock_123 : decode cX10_putBlock 123 = .ok (.isub, 1) := by decide +kernel
theorem dX10_putBlock_124 : decode cX10_putBlock 124 = .ok (.iaload, 1) := by decide +kernel
theorem dX10_putBlock_125 : decode cX10_putBlock 125 = .ok (.isub, 1) := by decide +kernel
theorem dX10_putBlock_126 : decode cX10_putBlock 126 = .ok (.i2l, 1) := by decide +kernel
theorem dX10_putBlock_127 : decode cX10_putBlock 127 = .ok (.invokestatic 334, 3) := by decide +kernel
theorem dX10_putBlock_130 : decode cX10_putBlock 130 = .ok (.i2l, 1) := by decide +kernel
theorem dX10_putBlock_131 : decode cX10_putBlock 131 = .ok (.ladd, 1) := by decide +kernel
theorem dX10_putBlock_132 : decode cX10_putBlock 132 = .ok (.lstore 6, 2) := by decide +kernel
theorem dX10_putBlock_134 : decode cX10_putBlock 134 = .ok (.iinc 8 1, 3) := by decide +kernel
theorem dX10_putBlock_137 : decode cX10_putBlock 137 = .ok (.goto (-118), 3) := by decide +kernel
theorem dX10_putBlock_140 : decode cX10_putBlock 140 = .ok (.aload_n 0, 1) := by decide +kernel
theorem dX10_putBlock_141 : decode cX10_putBlock 141 = .ok (.sipush 163, 3) := by decide +kernel
theorem dX10_putBlock_144 : decode cX10_putBlock 144 = .ok (.invokevirtual 88, 3) := by decide +kernel
theorem dX10_putBlock_147 : decode cX10_putBlock 147 = .ok (.aload_n 0, 1) := by decide +kernel
theorem dX10_putBlock_148 : decode cX10_putBlock 148 = .ok (.lload 6, 2) := by decide +kernel
theorem dX10_putBlock_150 : decode cX10_putBlock 150 = .ok (.invokevirtual 337, 3) := by decide +kernel
theorem dX10_putBlock_153 : decode cX10_putBlock 153 = .ok (.aload_n 0, 1) := by decide +kernel
theorem dX10_putBlock_154 : decode cX10_putBlock 154 = .ok (.sipush 129, 3) := by decide +kernel
theorem dX10_putBlock_157 : decode cX10_putBlock 157 = .ok (.invokevirtual 88, 3) := by decide +kernel
theorem dX10_putBlock_160 : decode cX10_putBlock 160 = .ok (.aload_n 0, 1) := by decide +kernel
theorem dX10_putBlock_161 : decode cX10_putBlock 161 = .ok (.iload 4, 2) := by decide +kernel
theorem dX10_putBlock_163 : decode cX10_putBlock 163 = .ok (.i2l, 1) := by decide +kernel
theorem dX10_putBlock_164 : decode cX10_putBlock 164 = .ok (.iconst 2, 1) := by decide +kernel
theorem dX10_putBlock_165 : decode cX10_putBlock 165 = .ok (.invokevirtual 310, 3) := by decide +kernel
theorem dX10_putBlock_168 : decode cX10_putBlock 168 = .ok (.aload_n 0, 1) := by decide +kernel
theorem dX10_putBlock_169 : decode cX10_putBlock 169 = .ok (.sipush 128, 3) := by decide +kernel
theorem dX10_putBlock_172 : decode cX10_putBlock 172 = .ok (.iconst 2, 1) := by decide +kernel
theorem dX10_putBlock_173 : decode cX10_putBlock 173 = .ok (.iload 5, 2) := by decide +kernel
theorem dX10_putBlock_175 : decode cX10_putBlock 175 = .ok (.imul, 1) := by decide +kernel
theorem dX10_putBlock_176 : decode cX10_putBlock 176 = .ok (.iadd, 1) := by decide +kernel
theorem dX10_putBlock_177 : decode cX10_putBlock 177 = .ok (.invokevirtual 88, 3) := by decide +kernel
theorem dX10_putBlock_180 : decode cX10_putBlock 180 = .ok (.iload 5, 2) := by decide +kernel
theorem dX10_putBlock_182 : decode cX10_putBlock 182 = .ok (.ifCond .le 10, 3) := by decide +kernel
theorem dX10_putBlock_185 : decode cX10_putBlock 185 = .ok (.aload_n 0, 1) := by decide +kernel
theorem dX10_putBlock_186 : decode cX10_putBlock 186 = .ok (.iload_n 2, 1) := by decide +kernel
theorem dX10_putBlock_187 : decode cX10_putBlock 187 = .ok (.iconst 1, 1) := by decide +kernel
theorem dX10_putBlock_188 : decode cX10_putBlock 188 = .ok (.isub, 1) := by decide +kernel
theorem dX10_putBlock_189 : decode cX10_putBlock 189 = .ok (.invokevirtual 88, 3) := by decide +kernel
theorem dX10_putBlock_192 : decode cX10_putBlock 192 = .ok (.iconst 0, 1) := by decide +kernel
theorem dX10_putBlock_193 : decode cX10_putBlock 193 = .ok (.istore 8, 2) := by decide +kernel
theorem dX10_putBlock_195 : decode cX10_putBlock 195 = .ok (.iload 8, 2) := by decide +kernel
theorem dX10_putBlock_197 : decode cX10_putBlock 197 = .ok (.iload_n 2, 1) := by decide +kernel
theorem dX10_putBlock_198 : decode cX10_putBlock 198 = .ok (.iconst 1, 1) := by decide +kernel
theorem dX10_putBlock_199 : decode cX10_putBlock 199 = .ok (.isub, 1) := by decide +kernel
theorem dX10_putBlock_200 : decode cX10_putBlock 200 = .ok (.if_icmp .ge 160, 3) := by decide +kernel
theorem dX10_putBlock_203 : decode cX10_putBlock 203 = .ok (.iload 5, 2) := by decide +kernel
theorem dX10_putBlock_205 : decode cX10_putBlock 205 = .ok (.iconst 1, 1) := by decide +kernel
theorem dX10_putBlock_206 : decode cX10_putBlock 206 = .ok (.if_icmp .ne 57, 3) := by decide +kernel
theorem dX10_putBlock_209 : decode cX10_putBlock 209 = .ok (.iconst 0, 1) := by decide +kernel
theorem dX10_putBlock_210 : decode cX10_putBlock 210 = .ok (.istore 9, 2) := by decide +kernel
theorem dX10_putBlock_212 : decode cX10_putBlock 212 = .ok (.iload 9, 2) := by decide +kernel
theorem dX10_putBlock_214 : decode cX10_putBlock 214 = .ok (.aload_n 0, 1) := by decide +kernel
theorem dX10_putBlock_215 : decode cX10_putBlock 215 = .ok (.getfield 19, 3) := by decide +kernel
theorem dX10_putBlock_218 : decode cX10_putBlock 218 = .ok (.iload_n 1, 1) := by decide +kernel
theorem dX10_putBlock_219 : decode cX10_putBlock 219 = .ok (.iload 8, 2) := by decide +kernel
theorem dX10_putBlock_221 : decode cX10_putBlock 221 = .ok (.iadd, 1) := by decide +kernel
theorem dX10_putBlock_222 : decode cX10_putBlock 222 = .ok (.iaload, 1) := by decide +kernel
theorem dX10_putBlock_223 : decode cX10_putBlock 223 = .ok (.sipush 255, 3) := by decide +kernel
theorem dX10_putBlock_226 : decode cX10_putBlock 226 = .ok (.idiv, 1) := by decide +kernel
theorem dX10_putBlock_227 : decode cX10_putBlock 227 = .ok (.if_icmp .ge 16, 3) := by decide +kernel
theorem dX10_putBlock_230 : decode cX10_putBlock 230 = .ok (.aload_n 0, 1) := by decide +kernel
theorem dX10_putBlock_231 : decode cX10_putBlock 231 = .ok (.sipush 255, 3) := by decide +kernel
theorem dX10_putBlock_234 : decode cX10_putBlock 234 = .ok (.invokevirtual 88, 3) := by decide +kernel
theorem dX10_putBlock_237 : decode cX10_putBlock 237 = .ok (.iinc 9 1, 3) := by decide +kernel
theorem dX10_putBlock_240 : decode cX10_putBlock 240 = .ok (.goto (-28), 3) := by decide +kernel
theorem dX10_putBlock_243 : decode cX10_putBlock 243 = .ok (.aload_n 0, 1) := by decide +kernel
theorem dX10_putBlock_244 : decode cX10_putBlock 244 = .ok (.aload_n 0, 1) := by decide +kernel
theorem dX10_putBlock_245 : decode cX10_putBlock 245 = .ok (.getfield 19, 3) := by decide +kernel
theorem dX10_putBlock_248 : decode cX10_putBlock 248 = .ok (.iload_n 1, 1) := by decide +kernel
theorem dX10_putBlock_249 : decode cX10_putBlock 249 = .ok (.iload 8, 2) := by decide +kernel
theorem dX10_putBlock_251 : decode cX10_putBlock 251 = .ok (.iadd, 1) := by decide +kernel
theorem dX10_putBlock_252 : decode cX10_putBlock 252 = .ok (.iaload, 1) := by decide +kernel
theorem dX10_putBlock_253 : decode cX10_putBlock 253 = .ok (.sipush 255, 3) := by decide +kernel
theorem dX10_putBlock_256 : decode cX10_putBlock 256 = .ok (.irem, 1) := by decide +kernel
theorem dX10_putBlock_257 : decode cX10_putBlock 257 = .ok (.invokevirtual 88, 3) := by decide +kernel
theorem dX10_putBlock_260 : decode cX10_putBlock 260 = .ok (.goto 94, 3) := by decide +kernel
theorem dX10_putBlock_263 : decode cX10_putBlock 263 = .ok (.iload 5, 2) := by decide +kernel
theorem dX10_putBlock_265 : decode cX10_putBlock 265 = .ok (.iconst 3, 1) := by decide +kernel
theorem dX10_putBlock_266 : decode cX10_putBlock 266 = .ok (.if_icmp .ne 22, 3) := by decide +kernel
theorem dX10_putBlock_269 : decode cX10_putBlock 269 = .ok (.iload 8, 2) := by decide +kernel
theorem dX10_putBlock_271 : decode cX10_putBlock 271 = .ok (.ifCond .ne 17, 3) := by decide +kernel
theorem dX10_putBlock_274 : decode cX10_putBlock 274 = .ok (.aload_n 0, 1) := by decide +kernel
theorem dX10_putBlock_275 : decode cX10_putBlock 275 = .ok (.aload_n 0, 1) := by decide +kernel
theorem dX10_putBlock_276 : decode cX10_putBlock 276 = .ok (.getfield 19, 3) := by decide +kernel
theorem dX10_putBlock_279 : decode cX10_putBlock 279 = .ok (.iload_n 1, 1) := by decide +kernel
theorem dX10_putBlock_280 : decode cX10_putBlock 280 = .ok (.iaload, 1) := by decide +kernel
theorem dX10_putBlock_281 : decode cX10_putBlock 281 = .ok (.i2l, 1) := by decide +kernel
theorem dX10_putBlock_282 : decode cX10_putBlock 282 = .ok (.invokevirtual 337, 3) := by decide +kernel
theorem dX10_putBlock_285 : decode cX10_putBlock 285 = .ok (.goto 69, 3) := by decide +kernel
theorem dX10_putBlock_288 : decode cX10_putBlock 288 = .ok (.iload 5, 2) := by decide +kernel
theorem dX10_putBlock_290 : decode cX10_putBlock 290 = .ok (.iconst 3, 1) := by decide +kernel
theorem dX10_putBlock_291 : decode cX10_putBlock 291 = .ok (.if_icmp .ne 63, 3) := by decide +kernel
theorem dX10_putBlock_294 : decode cX10_putBlock 294 = .ok (.aload_n 0, 1) := by decide +kernel
theorem dX10_putBlock_295 : decode cX10_putBlock 295 = .ok (.getfield 19, 3) := by decide +kernel
theorem dX10_putBlock_298 : decode cX10_putBlock 298 = .ok (.iload_n 1, 1) := by decide +kernel
theorem dX10_putBlock_299 : decode cX10_putBlock 299 = .ok (.iload 8, 2) := by decide +kernel
theorem dX10_putBlock_301 : decode cX10_putBlock 301 = .ok (.iadd, 1) := by decide +kernel
theorem dX10_putBlock_302 : decode cX10_putBlock 302 = .ok (.iaload, 1) := by decide +kernel
theorem dX10_putBlock_303 : decode cX10_putBlock 303 = .ok (.aload_n 0, 1) := by decide +kernel
theorem dX10_putBlock_304 : decode cX10_putBlock 304 = .ok (.getfield 19, 3) := by decide +kernel
theorem dX10_putBlock_307 : decode cX10_putBlock 307 = .ok (.iload_n 1, 1) := by decide +kernel
theorem dX10_putBlock_308 : decode cX10_putBlock 308 = .ok (.iload 8, 2) := by decide +kernel
theorem dX10_putBlock_310 : decode cX10_putBlock 310 = .ok (.iadd, 1) := by decide +kernel
theorem dX10_putBlock_311 : decode cX10_putBlock 311 = .ok (.iconst 1, 1) := by decide +kernel
theorem dX10_putBlock_312 : decode cX10_putBlock 312 = .ok (.isub, 1) := by decide +kernel
theorem dX10_putBlock_313 : decode cX10_putBlock 313 = .ok (.iaload, 1) := by decide +kernel
theorem dX10_putBlock_314 : decode cX10_putBlock 314 = .ok (.isub, 1) := by decide +kernel
theorem dX10_putBlock_315 : decode cX10_putBlock 315 = .ok (.istore 9, 2) := by decide +kernel
theorem dX10_putBlock_317 : decode cX10_putBlock 317 = .ok (.iload 9, 2) := by decide +kernel
theorem dX10_putBlock_319 : decode cX10_putBlock 319 = .ok (.i2l, 1) := by decide +kernel
theorem dX10_putBlock_320 : decode cX10_putBlock 320 = .ok (.invokestatic 334, 3) := by decide +kernel
theorem dX10_putBlock_323 : decode cX10_putBlock 323 = .ok (.istore 10, 2) := by decide +kernel
theorem dX10_putBlock_325 : decode cX10_putBlock 325 = .ok (.aload_n 0, 1) := by decide +kernel
theorem dX10_putBlock_326 : decode cX10_putBlock 326 = .ok (.iload 9, 2) := by decide +kernel
theorem dX10_putBlock_328 : decode cX10_putBlock 328 = .ok (.i2l, 1) := by decide +kernel
theorem dX10_putBlock_329 : decode cX10_putBlock 329 = .ok (.lconst 1, 1) := by decide +kernel
theorem dX10_putBlock_330 : decode cX10_putBlock 330 = .ok (.bipush 7, 2) := by decide +kernel
theorem dX10_putBlock_332 : decode cX10_putBlock 332 = .ok (.iload 10, 2) := by decide +kernel
theorem dX10_putBlock_334 : decode cX10_putBlock 334 = .ok (.imul, 1) := by decide +kernel
theorem dX10_putBlock_335 : decode cX10_putBlock 335 = .ok (.iconst 1, 1) := by decide +kernel
theorem dX10_putBlock_336 : decode cX10_putBlock 336 = .ok (.isub, 1) := by decide +kernel
theorem dX10_putBlock_337 : decode cX10_putBlock 337 = .ok (.lshl, 1) := by decide +kernel
theorem dX10_putBlock_338 : decode cX10_putBlock 338 = .ok (.ladd, 1) := by decide +kernel
theorem dX10_putBlock_339 : decode cX10_putBlock 339 = .ok (.lconst 1, 1) := by decide +kernel
theorem dX10_putBlock_340 : decode cX10_putBlock 340 = .ok (.lsub, 1) := by decide +kernel
theorem dX10_putBlock_341 : decode cX10_putBlock 341 = .ok (.lconst 1, 1) := by decide +kernel
theorem dX10_putBlock_342 : decode cX10_putBlock 342 = .ok (.bipush 7, 2) := by decide +kernel
theorem dX10_putBlock_344 : decode cX10_putBlock 344 = .ok (.iload 10, 2) := by decide +kernel
theorem dX10_putBlock_346 : decode cX10_putBlock 346 = .ok (.imul, 1) := by decide +kernel
theorem dX10_putBlock_347 : decode cX10_putBlock 347 = .ok (.lshl, 1) := by decide +kernel
theorem dX10_putBlock_348 : decode cX10_putBlock 348 = .ok (.lor, 1) := by decide +kernel
theorem dX10_putBlock_349 : decode cX10_putBlock 349 = .ok (.iload 10, 2) := by decide +kernel
theorem dX10_putBlock_351 : decode cX10_putBlock 351 = .ok (.invokevirtual 310, 3) := by decide +kernel
theorem dX10_putBlock_354 : decode cX10_putBlock 354 = .ok (.iinc 8 1, 3) := by decide +kernel
theorem dX10_putBlock_357 : decode cX10_putBlock 357 = .ok (.goto (-162), 3) := by decide +kernel
theorem dX10_putBlock_360 : decode cX10_putBlock 360 = .ok (.iload_n 3, 1) := by decide +kernel
theorem dX10_putBlock_361 : decode cX10_putBlock 361 = .ok (.istore 8, 2) := by decide +kernel
theorem dX10_putBlock_363 : decode cX10_putBlock 363 = .ok (.iconst 0, 1) := by decide +kernel
theorem dX10_putBlock_364 : decode cX10_putBlock 364 = .ok (.istore 9, 2) := by decide +kernel
theorem dX10_putBlock_366 : decode cX10_putBlock 366 = .ok (.iload 9, 2) := by decide +kernel
theorem dX10_putBlock_368 : decode cX10_putBlock 368 = .ok (.iload_n 2, 1) := by decide +kernel
theorem dX10_putBlock_369 : decode cX10_putBlock 369 = .ok (.if_icmp .ge 23, 3) := by decide +kernel
theorem dX10_putBlock_372 : decode cX10_putBlock 372 = .ok (.iload 8, 2) := by decide +kernel
theorem dX10_putBlock_374 : decode cX10_putBlock 374 = .ok (.aload_n 0, 1) := by decide +kernel
theorem dX10_putBlock_375 : decode cX10_putBlock 375 = .ok (.getfield 19, 3) := by decide +kernel
theorem dX10_putBlock_378 : decode cX10_putBlock 378 = .ok (.iload_n 1, 1) := by decide +kernel
theorem dX10_putBlock_379 : decode cX10_putBlock 379 = .ok (.iload 9, 2) := by decide +kernel
theorem dX10_putBlock_381 : decode cX10_putBlock 381 = .ok (.iadd, 1) := by decide +kernel
theorem dX10_putBlock_382 : decode cX10_putBlock 382 = .ok (.iaload, 1) := by decide +kernel
theorem dX10_putBlock_383 : decode cX10_putBlock 383 = .ok (.iadd, 1) := by decide +kernel
theorem dX10_putBlock_384 : decode cX10_putBlock 384 = .ok (.istore 8, 2) := by decide +kernel
theorem dX10_putBlock_386 : decode cX10_putBlock 386 = .ok (.iinc 9 1, 3) := by decide +kernel
theorem dX10_putBlock_389 : decode cX10_putBlock 389 = .ok (.goto (-23), 3) := by decide +kernel
theorem dX10_putBlock_392 : decode cX10_putBlock 392 = .ok (.iload_n 3, 1) := by decide +kernel
theorem dX10_putBlock_393 : decode cX10_putBlock 393 = .ok (.istore 9, 2) := by decide +kernel
theorem dX10_putBlock_395 : decode cX10_putBlock 395 = .ok (.iload 9, 2) := by decide +kernel
theorem dX10_putBlock_397 : decode cX10_putBlock 397 = .ok (.iload 8, 2) := by decide +kernel
theorem dX10_putBlock_399 : decode cX10_putBlock 399 = .ok (.if_icmp .ge 20, 3) := by decide +kernel
theorem dX10_putBlock_402 : decode cX10_putBlock 402 = .ok (.aload_n 0, 1) := by decide +kernel
theorem dX10_putBlock_403 : decode cX10_putBlock 403 = .ok (.aload_n 0, 1) := by decide +kernel
theorem dX10_putBlock_404 : decode cX10_putBlock 404 = .ok (.getfield 33, 3) := by decide +kernel
theorem dX10_putBlock_407 : decode cX10_putBlock 407 = .ok (.iload 9, 2) := by decide +kernel
theorem dX10_putBlock_409 : decode cX10_putBlock 409 = .ok (.baload, 1) := by decide +kernel
theorem dX10_putBlock_410 : decode cX10_putBlock 410 = .ok (.invokevirtual 88, 3) := by decide +kernel
theorem dX10_putBlock_413 : decode cX10_putBlock 413 = .ok (.iinc 9 1, 3) := by decide +kernel
theorem dX10_putBlock_416 : decode cX10_putBlock 416 = .ok (.goto (-21), 3) := by decide +kernel
theorem dX10_putBlock_419 : decode cX10_putBlock 419 = .ok (.return_, 1) := by decide +kernel
theorem dX10_turn_0 : decode cX10_turn 0 = .ok (.iconst 0, 1) := by decide +kernel
theorem dX10_turn_1 : decode cX10_turn 1 = .ok (.istore_n 1, 1) := by decide +kernel
theorem dX10_turn_2 : decode cX10_turn 2 = .ok (.iload_n 1, 1) := by decide +kernel
theorem dX10_turn_3 : decode cX10_turn 3 = .ok (.aload_n 0, 1) := by decide +kernel
theorem dX10_turn_4 : decode cX10_turn 4 = .ok (.getfield 91, 3) := by decide +kernel
theorem dX10_turn_7 : decode cX10_turn 7 = .ok (.if_icmp .ge 21, 3) := by decide +kernel
theorem dX10_turn_10 : decode cX10_turn 10 = .ok (.aload_n 0, 1) := by decide +kernel
theorem dX10_turn_11 : decode cX10_turn 11 = .ok (.getfield 7, 3) := by decide +kernel
theorem dX10_turn_14 : decode cX10_turn 14 = .ok (.iload_n 1, 1) := by decide +kernel
theorem dX10_turn_15 : decode cX10_turn 15 = .ok (.aload_n 0, 1) := by decide +kernel
theorem dX10_turn_16 : decode cX10_turn 16 = .ok (.getfield 13, 3) := by decide +kernel
theorem dX10_turn_19 : decode cX10_turn 19 = .ok (.iload_n 1, 1) := by decide +kernel
theorem dX10_turn_20 : decode cX10_turn 20 = .ok (.baload, 1) := by decide +kernel
theorem dX10_turn_21 : decode cX10_turn 21 = .ok (.bastore, 1) := by decide +kernel
theorem dX10_turn_22 : decode cX10_turn 22 = .ok (.iinc 1 1, 3) := by decide +kernel
theorem dX10_turn_25 : decode cX10_turn 25 = .ok (.goto (-23), 3) := by decide +kernel
theorem dX10_turn_28 : decode cX10_turn 28 = .ok (.aload_n 0, 1) := by decide +kernel
theorem dX10_turn_29 : decode cX10_turn 29 = .ok (.aload_n 0, 1) := by decide +kernel
theorem dX10_turn_30 : decode cX10_turn 30 = .ok (.getfield 91, 3) := by decide +kernel
theorem dX10_turn_33 : decode cX10_turn 33 = .ok (.putfield 58, 3) := by decide +kernel
theorem dX10_turn_36 : decode cX10_turn 36 = .ok (.aload_n 0, 1) := by decide +kernel
theorem dX10_turn_37 : decode cX10_turn 37 = .ok (.getfield 58, 3) := by decide +kernel
theorem dX10_turn_40 : decode cX10_turn 40 = .ok (.ireturn, 1) := by decide +kernel
theorem dX10_count_0 : decode cX10_count 0 = .ok (.iload_n 1, 1) := by decide +kernel
theorem dX10_count_1 : decode cX10_count 1 = .ok (.tableswitch 78 0 6 #[43, 48, 53, 58, 63, 68, 73], 43) := by decide +kernel
theorem dX10_count_44 : decode cX10_count 44 = .ok (.aload_n 0, 1) := by decide +kernel
theorem dX10_count_45 : decode cX10_count 45 = .ok (.getfield 69, 3) := by decide +kernel
theorem dX10_count_48 : decode cX10_count 48 = .ok (.ireturn, 1) := by decide +kernel
theorem dX10_count_49 : decode cX10_count 49 = .ok (.aload_n 0, 1) := by decide +kernel
theorem dX10_count_50 : decode cX10_count 50 = .ok (.getfield 72, 3) := by decide +kernel
theorem dX10_count_53 : decode cX10_count 53 = .ok (.ireturn, 1) := by decide +kernel
theorem dX10_count_54 : decode cX10_count 54 = .ok (.aload_n 0, 1) := by decide +kernel
theorem dX10_count_55 : decode cX10_count 55 = .ok (.getfield 91, 3) := by decide +kernel
theorem dX10_count_58 : decode cX10_count 58 = .ok (.ireturn, 1) := by decide +kernel
theorem dX10_count_59 : decode cX10_count 59 = .ok (.aload_n 0, 1) := by decide +kernel
theorem dX10_count_60 : decode cX10_count 60 = .ok (.getfield 58, 3) := by decide +kernel
theorem dX10_count_63 : decode cX10_count 63 = .ok (.ireturn, 1) := by decide +kernel
theorem dX10_count_64 : decode cX10_count 64 = .ok (.aload_n 0, 1) := by decide +kernel
theorem dX10_count_65 : decode cX10_count 65 = .ok (.getfield 161, 3) := by decide +kernel
theorem dX10_count_68 : decode cX10_count 68 = .ok (.ireturn, 1) := by decide +kernel
theorem dX10_count_69 : decode cX10_count 69 = .ok (.aload_n 0, 1) := by decide +kernel
theorem dX10_count_70 : decode cX10_count 70 = .ok (.getfield 300, 3) := by decide +kernel
theorem dX10_count_73 : decode cX10_count 73 = .ok (.ireturn, 1) := by decide +kernel
theorem dX10_count_74 : decode cX10_count 74 = .ok (.aload_n 0, 1) := by decide +kernel
theorem dX10_count_75 : decode cX10_count 75 = .ok (.getfield 303, 3) := by decide +kernel
theorem dX10_count_78 : decode cX10_count 78 = .ok (.ireturn, 1) := by decide +kernel
theorem dX10_count_79 : decode cX10_count 79 = .ok (.iconst (-1), 1) := by decide +kernel
theorem dX10_count_80 : decode cX10_count 80 = .ok (.ireturn, 1) := by decide +kernel
theorem dX10_size_0 : decode cX10_size 0 = .ok (.iload_n 1, 1) := by decide +kernel
theorem dX10_size_1 : decode cX10_size 1 = .ok (.ifCond .lt 20, 3) := by decide +kernel
theorem dX10_size_4 : decode cX10_size 4 = .ok (.iload_n 1, 1) := by decide +kernel
theorem dX10_size_5 : decode cX10_size 5 = .ok (.aload_n 0, 1) := by decide +kernel
theorem dX10_size_6 : decode cX10_size 6 = .ok (.getfield 69, 3) := by decide +kernel
theorem dX10_size_9 : decode cX10_size 9 = .ok (.if_icmp .ge 12, 3) := by decide +kernel
theorem dX10_size_12 : decode cX10_size 12 = .ok (.aload_n 0, 1) := by decide +kernel
theorem dX10_size_13 : decode cX10_size 13 = .ok (.getfield 19, 3) := by decide +kernel
theorem dX10_size_16 : decode cX10_size 16 = .ok (.iload_n 1, 1) := by decide +kernel
theorem dX10_size_17 : decode cX10_size 17 = .ok (.iaload, 1) := by decide +kernel
theorem dX10_size_18 : decode cX10_size 18 = .ok (.goto 4, 3) := by decide +kernel
theorem dX10_size_21 : decode cX10_size 21 = .ok (.iconst (-1), 1) := by decide +kernel
theorem dX10_size_22 : decode cX10_size 22 = .ok (.ireturn, 1) := by decide +kernel
theorem dX10_time_0 : decode cX10_time 0 = .ok (.iload_n 1, 1) := by decide +kernel
theorem dX10_time_1 : decode cX10_time 1 = .ok (.ifCond .lt 20, 3) := by decide +kernel
theorem dX10_time_4 : decode cX10_time 4 = .ok (.iload_n 1, 1) := by decide +kernel
theorem dX10_time_5 : decode cX10_time 5 = .ok (.aload_n 0, 1) := by decide +kernel
theorem dX10_time_6 : decode cX10_time 6 = .ok (.getfield 69, 3) := by decide +kernel
theorem dX10_time_9 : decode cX10_time 9 = .ok (.if_icmp .ge 12, 3) := by decide +kernel
theorem dX10_time_12 : decode cX10_time 12 = .ok (.aload_n 0, 1) := by decide +kernel
theorem dX10_time_13 : decode cX10_time 13 = .ok (.getfield 26, 3) := by decide +kernel
theorem dX10_time_16 : decode cX10_time 16 = .ok (.iload_n 1, 1) := by decide +kernel
theorem dX10_time_17 : decode cX10_time 17 = .ok (.laload, 1) := by decide +kernel
theorem dX10_time_18 : decode cX10_time 18 = .ok (.goto 6, 3) := by decide +kernel
theorem dX10_time_21 : decode cX10_time 21 = .ok (.ldc2_w 65, 3) := by decide +kernel
theorem dX10_time_24 : decode cX10_time 24 = .ok (.lreturn, 1) := by decide +kernel
theorem dX10_octet_0 : decode cX10_octet 0 = .ok (.iload_n 1, 1) := by decide +kernel
theorem dX10_octet_1 : decode cX10_octet 1 = .ok (.ifCond .lt 25, 3) := by decide +kernel
theorem dX10_octet_4 : decode cX10_octet 4 = .ok (.iload_n 1, 1) := by decide +kernel
theorem dX10_octet_5 : decode cX10_octet 5 = .ok (.aload_n 0, 1) := by decide +kernel
theorem dX10_octet_6 : decode cX10_octet 6 = .ok (.getfield 69, 3) := by decide +kernel
theorem dX10_octet_9 : decode cX10_octet 9 = .ok (.if_icmp .ge 17, 3) := by decide +kernel
theorem dX10_octet_12 : decode cX10_octet 12 = .ok (.iload_n 2, 1) := by decide +kernel
theorem dX10_octet_13 : decode cX10_octet 13 = .ok (.ifCond .lt 13, 3) := by decide +kernel
theorem dX10_octet_16 : decode cX10_octet 16 = .ok (.iload_n 2, 1) := by decide +kernel
theorem dX10_octet_17 : decode cX10_octet 17 = .ok (.aload_n 0, 1) := by decide +kernel
theorem dX10_octet_18 : decode cX10_octet 18 = .ok (.getfield 19, 3) := by decide +kernel
theorem dX10_octet_21 : decode cX10_octet 21 = .ok (.iload_n 1, 1) := by decide +kernel
theorem dX10_octet_22 : decode cX10_octet 22 = .ok (.iaload, 1) := by decide +kernel
theorem dX10_octet_23 : decode cX10_octet 23 = .ok (.if_icmp .lt 5, 3) := by decide +kernel
theorem dX10_octet_26 : decode cX10_octet 26 = .ok (.iconst (-1), 1) := by decide +kernel
theorem dX10_octet_27 : decode cX10_octet 27 = .ok (.ireturn, 1) := by decide +kernel
theorem dX10_octet_28 : decode cX10_octet 28 = .ok (.iconst 0, 1) := by decide +kernel
theorem dX10_octet_29 : decode cX10_octet 29 = .ok (.istore_n 3, 1) := by decide +kernel
theorem dX10_octet_30 : decode cX10_octet 30 = .ok (.iconst 0, 1) := by decide +kernel
theorem dX10_octet_31 : decode cX10_octet 31 = .ok (.istore 4, 2) := by decide +kernel
theorem dX10_octet_33 : decode cX10_octet 33 = .ok (.iload 4, 2) := by decide +kernel
theorem dX10_octet_35 : decode cX10_octet 35 = .ok (.iload_n 1, 1) := by decide +kernel
theorem dX10_octet_36 : decode cX10_octet 36 = .ok (.if_icmp .ge 19, 3) := by decide +kernel
theorem dX10_octet_39 : decode cX10_octet 39 = .ok (.iload_n 3, 1) := by decide +kernel
theorem dX10_octet_40 : decode cX10_octet 40 = .ok (.aload_n 0, 1) := by decide +kernel
theorem dX10_octet_41 : decode cX10_octet 41 = .ok (.getfield 19, 3) := by decide +kernel
theorem dX10_octet_44 : decode cX10_octet 44 = .ok (.iload 4, 2) := by decide +kernel
theorem dX10_octet_46 : decode cX10_octet 46 = .ok (.iaload, 1) := by decide +kernel
theorem dX10_octet_47 : decode cX10_octet 47 = .ok (.iadd, 1) := by decide +kernel
theorem dX10_octet_48 : decode cX10_octet 48 = .ok (.istore_n 3, 1) := by decide +kernel
theorem dX10_octet_49 : decode cX10_octet 49 = .ok (.iinc 4 1, 3) := by decide +kernel
theorem dX10_octet_52 : decode cX10_octet 52 = .ok (.goto (-19), 3) := by decide +kernel
theorem dX10_octet_55 : decode cX10_octet 55 = .ok (.aload_n 0, 1) := by decide +kernel
theorem dX10_octet_56 : decode cX10_octet 56 = .ok (.getfield 33, 3) := by decide +kernel
theorem dX10_octet_59 : decode cX10_octet 59 = .ok (.iload_n 3, 1) := by decide +kernel
theorem dX10_octet_60 : decode cX10_octet 60 = .ok (.iload_n 2, 1) := by decide +kernel
theorem dX10_octet_61 : decode cX10_octet 61 = .ok (.iadd, 1) := by decide +kernel
theorem dX10_octet_62 : decode cX10_octet 62 = .ok (.baload, 1) := by decide +kernel
theorem dX10_octet_63 : decode cX10_octet 63 = .ok (.sipush 255, 3) := by decide +kernel
theorem dX10_octet_66 : decode cX10_octet 66 = .ok (.iand, 1) := by decide +kernel
theorem dX10_octet_67 : decode cX10_octet 67 = .ok (.ireturn, 1) := by decide +kernel
theorem dX10_out_0 : decode cX10_out 0 = .ok (.iload_n 1, 1) := by decide +kernel
theorem dX10_out_1 : decode cX10_out 1 = .ok (.ifCond .lt 24, 3) := by decide +kernel
theorem dX10_out_4 : decode cX10_out 4 = .ok (.iload_n 1, 1) := by decide +kernel
theorem dX10_out_5 : decode cX10_out 5 = .ok (.aload_n 0, 1) := by decide +kernel
theorem dX10_out_6 : decode cX10_out 6 = .ok (.getfield 91, 3) := by decide +kernel
theorem dX10_out_9 : decode cX10_out 9 = .ok (.if_icmp .ge 16, 3) := by decide +kernel
theorem dX10_out_12 : decode cX10_out 12 = .ok (.aload_n 0, 1) := by decide +kernel
theorem dX10_out_13 : decode cX10_out 13 = .ok (.getfield 13, 3) := by decide +kernel
theorem dX10_out_16 : decode cX10_out 16 = .ok (.iload_n 1, 1) := by decide +kernel
theorem dX10_out_17 : decode cX10_out 17 = .ok (.baload, 1) := by decide +kernel
theorem dX10_out_18 : decode cX10_out 18 = .ok (.sipush 255, 3) := by decide +kernel
theorem dX10_out_21 : decode cX10_out 21 = .ok (.iand, 1) := by decide +kernel
theorem dX10_out_22 : decode cX10_out 22 = .ok (.goto 4, 3) := by decide +kernel
theorem dX10_out_25 : decode cX10_out 25 = .ok (.iconst (-1), 1) := by decide +kernel
theorem dX10_out_26 : decode cX10_out 26 = .ok (.ireturn, 1) := by decide +kernel
theorem dX10_patch_0 : decode cX10_patch 0 = .ok (.iload_n 1, 1) := by decide +kernel
theorem dX10_patch_1 : decode cX10_patch 1 = .ok (.ifCond .lt 11, 3) := by decide +kernel
theorem dX10_patch_4 : decode cX10_patch 4 = .ok (.iload_n 1, 1) := by decide +kernel
theorem dX10_patch_5 : decode cX10_patch 5 = .ok (.aload_n 0, 1) := by decide +kernel
theorem dX10_patch_6 : decode cX10_patch 6 = .ok (.getfield 58, 3) := by decide +kernel
theorem dX10_patch_9 : decode cX10_patch 9 = .ok (.if_icmp .lt 5, 3) := by decide +kernel
theorem dX10_patch_12 : decode cX10_patch 12 = .ok (.iconst 0, 1) := by decide +kernel
theorem dX10_patch_13 : decode cX10_patch 13 = .ok (.ireturn, 1) := by decide +kernel
theorem dX10_patch_14 : decode cX10_patch 14 = .ok (.aload_n 0, 1) := by decide +kernel
theorem dX10_patch_15 : decode cX10_patch 15 = .ok (.getfield 7, 3) := by decide +kernel
theorem dX10_patch_18 : decode cX10_patch 18 = .ok (.iload_n 1, 1) := by decide +kernel
theorem dX10_patch_19 : decode cX10_patch 19 = .ok (.iload_n 2, 1) := by decide +kernel
theorem dX10_patch_20 : decode cX10_patch 20 = .ok (.i2b, 1) := by decide +kernel
theorem dX10_patch_21 : decode cX10_patch 21 = .ok (.bastore, 1) := by decide +kernel
theorem dX10_patch_22 : decode cX10_patch 22 = .ok (.iconst 1, 1) := by decide +kernel
theorem dX10_patch_23 : decode cX10_patch 23 = .ok (.ireturn, 1) := by decide +kernel
set_option maxRecDepth 20000 in
theorem ggX10_sum_X10_isMark : GoodIn wsX10_sum wsX10_isMark := goodIn_r _ [7, 8, 9, 10, 6, 11, 2, 27, 28, 29, 30, 31, 32, 33, 34, 35, 36, 37, 38, 39, 40, 41, 42, 43, 44, 45, 46, 47, 48, 49, 50, 51, 52, 53, 54, 55, 56, 57, 58, 59, 60, 61, 62, 63, 64, 65, 66, 67, 68, 69, 70, 71, 72] (by decide +kernel) (by decide +kernel)
set_option maxRecDepth 20000 in
theorem gX10_sum_X10_isMark : GoodIn wsX10_sum (wsV RX10 167 RX10 yX10_isMark wsX10_isMark) := goodIn_app (goodIn_of _ (by decide +kernel)) ggX10_sum_X10_isMark
set_option maxRecDepth 20000 in
theorem ggX10_sum_X10_isWhole : GoodIn wsX10_sum wsX10_isWhole := goodIn_r _ [15, 8, 9, 10, 6, 11, 2, 16, 17, 18, 19, 27, 28, 29, 30, 31, 32, 33, 34, 35, 36, 37, 38, 39, 40, 41, 42, 43, 44, 45, 46, 47, 48, 49, 50, 51, 52, 53, 54, 55, 56, 57, 58, 59, 60, 61, 62, 63, 64, 65, 66, 67, 68, 69, 70, 71, 72] (by decide +kernel) (by decide +kernel)
set_option maxRecDepth 20000 in
theorem gX10_sum_X10_isWhole : GoodIn wsX10_sum (wsV RX10 171 RX10 yX10_isWhole wsX10_isWhole) := goodIn_app (goodIn_of _ (by decide +kernel)) ggX10_sum_X10_isWhole
set_option maxRecDepth 20000 in
theorem ggX10_sum_X10_lengthOf : GoodIn wsX10_sum wsX10_lengthOf := goodIn_r _ [19, 8, 9, 10, 6, 11, 2, 27, 28, 29, 30, 31, 32, 33, 34, 35, 36, 37, 38, 39, 40, 41, 42, 43, 44, 45, 46, 47, 48, 49, 50, 51, 52, 53, 54, 55, 56, 57, 58, 59, 60, 61, 62, 63, 64, 65, 66, 67, 68, 69, 70, 71, 72] (by decide +kernel) (by decide +kernel)
set_option maxRecDepth 20000 in
theorem gX10_sum_X10_lengthOf : GoodIn wsX10_sum (wsV RX10 158 RX10 yX10_lengthOf wsX10_lengthOf) := goodIn_app (goodIn_of _ (by decide +kernel)) ggX10_sum_X10_lengthOf
set_option maxRecDepth 20000 in
theorem ggX10_sum_X10_putSum : GoodIn wsX10_sum wsX10_putSum := goodIn_r _ [22, 23, 24, 6, 25, 26] (by decide +kernel) (by decide +kernel)
set_option maxRecDepth 20000 in
theorem gX10_sum_X10_putSum : GoodIn wsX10_sum (va_wsS RX10 111 yX10_putSum wsX10_putSum) := goodIn_app (goodIn_of _ (by decide +kernel)) ggX10_sum_X10_putSum
theorem dX10_sum_0 : decode cX10_sum 0 = .ok (.iload_n 1, 1) := by decide +kernel
theorem dX10_sum_1 : decode cX10_sum 1 = .ok (.ifCond .lt 34, 3) := by decide +kernel
theorem dX10_sum_4 : decode cX10_sum 4 = .ok (.iload_n 1, 1) := by decide +kernel
theorem dX10_sum_5 : decode cX10_sum 5 = .ok (.aload_n 0, 1) := by decide +kernel
theorem dX10_sum_6 : decode cX10_sum 6 = .ok (.getfield 58, 3) := by decide +kernel
theorem dX10_sum_9 : decode cX10_sum 9 = .ok (.bipush 27, 2) := by decide +kernel
theorem dX10_sum_11 : decode cX10_sum 11 = .ok (.isub, 1) := by decide +kernel
theorem dX10_sum_12 : decode cX10_sum 12 = .ok (.if_icmp .gt 23, 3) := by decide +kernel
theorem dX10_sum_15 : decode cX10_sum 15 = .ok (.aload_n 0, 1) := by decide +kernel
theorem dX10_sum_16 : decode cX10_sum 16 = .ok (.iload_n 1, 1) := by decide +kernel
theorem dX10_sum_17 : decode cX10_sum 17 = .ok (.invokevirtual 167, 3) := by decide +kernel
theorem dX10_sum_20 : decode cX10_sum 20 = .ok (.ifCond .eq 15, 3) := by decide +kernel
theorem dX10_sum_23 : decode cX10_sum 23 = .ok (.aload_n 0, 1) := by decide +kernel
theorem dX10_sum_24 : decode cX10_sum 24 = .ok (.iload_n 1, 1) := by decide +kernel
theorem dX10_sum_25 : decode cX10_sum 25 = .ok (.aload_n 0, 1) := by decide +kernel
theorem dX10_sum_26 : decode cX10_sum 26 = .ok (.getfield 58, 3) := by decide +kernel
theorem dX10_sum_29 : decode cX10_sum 29 = .ok (.invokevirtual 171, 3) := by decide +kernel
theorem dX10_sum_32 : decode cX10_sum 32 = .ok (.ifCond .ne 5, 3) := by decide +kernel
theorem dX10_sum_35 : decode cX10_sum 35 = .ok (.iconst 0, 1) := by decide +kernel
theorem dX10_sum_36 : decode cX10_sum 36 = .ok (.ireturn, 1) := by decide +kernel
theorem dX10_sum_37 : decode cX10_sum 37 = .ok (.aload_n 0, 1) := by decide +kernel
theorem dX10_sum_38 : decode cX10_sum 38 = .ok (.getfield 7, 3) := by decide +kernel
theorem dX10_sum_41 : decode cX10_sum 41 = .ok (.iload_n 1, 1) := by decide +kernel
theorem dX10_sum_42 : decode cX10_sum 42 = .ok (.aload_n 0, 1) := by decide +kernel
theorem dX10_sum_43 : decode cX10_sum 43 = .ok (.iload_n 1, 1) := by decide +kernel
theorem dX10_sum_44 : decode cX10_sum 44 = .ok (.invokevirtual 158, 3) := by decide +kernel
theorem dX10_sum_47 : decode cX10_sum 47 = .ok (.invokestatic 111, 3) := by decide +kernel
theorem dX10_sum_50 : decode cX10_sum 50 = .ok (.iconst 1, 1) := by decide +kernel
theorem dX10_sum_51 : decode cX10_sum 51 = .ok (.ireturn, 1) := by decide +kernel
theorem dJ9_abs_067f4_0 : decode cJ9_abs_067f4 0 = .ok (.lload_n 0, 1) := by decide +kernel
theorem dJ9_abs_067f4_1 : decode cJ9_abs_067f4 1 = .ok (.lconst 0, 1) := by decide +kernel
theorem dJ9_abs_067f4_2 : decode cJ9_abs_067f4 2 = .ok (.lcmp, 1) := by decide +kernel
theorem dJ9_abs_067f4_3 : decode cJ9_abs_067f4 3 = .ok (.ifCond .ge 8, 3) := by decide +kernel
theorem dJ9_abs_067f4_6 : decode cJ9_abs_067f4 6 = .ok (.lload_n 0, 1) := by decide +kernel
theorem dJ9_abs_067f4_7 : decode cJ9_abs_067f4 7 = .ok (.lneg, 1) := by decide +kernel
theorem dJ9_abs_067f4_8 : decode cJ9_abs_067f4 8 = .ok (.goto 4, 3) := by decide +kernel
theorem dJ9_abs_067f4_11 : decode cJ9_abs_067f4 11 = .ok (.lload_n 0, 1) := by decide +kernel
theorem dJ9_abs_067f4_12 : decode cJ9_abs_067f4 12 = .ok (.lreturn, 1) := by decide +kernel
theorem dJ9_max_7cf53_0 : decode cJ9_max_7cf53 0 = .ok (.iload_n 0, 1) := by decide +kernel
theorem dJ9_max_7cf53_1 : decode cJ9_max_7cf53 1 = .ok (.iload_n 1, 1) := by decide +kernel
theorem dJ9_max_7cf53_2 : decode cJ9_max_7cf53 2 = .ok (.if_icmp .lt 7, 3) := by decide +kernel
theorem dJ9_max_7cf53_5 : decode cJ9_max_7cf53 5 = .ok (.iload_n 0, 1) := by decide +kernel
theorem dJ9_max_7cf53_6 : decode cJ9_max_7cf53 6 = .ok (.goto 4, 3) := by decide +kernel
theorem dJ9_max_7cf53_9 : decode cJ9_max_7cf53 9 = .ok (.iload_n 1, 1) := by decide +kernel
theorem dJ9_max_7cf53_10 : decode cJ9_max_7cf53 10 = .ok (.ireturn, 1) := by decide +kernel
theorem dJ9_max_f86c9_0 : decode cJ9_max_f86c9 0 = .ok (.lload_n 0, 1) := by decide +kernel
theorem dJ9_max_f86c9_1 : decode cJ9_max_f86c9 1 = .ok (.lload_n 2, 1) := by decide +kernel
theorem dJ9_max_f86c9_2 : decode cJ9_max_f86c9 2 = .ok (.lcmp, 1) := by decide +kernel
theorem dJ9_max_f86c9_3 : decode cJ9_max_f86c9 3 = .ok (.ifCond .lt 7, 3) := by decide +kernel
theorem dJ9_max_f86c9_6 : decode cJ9_max_f86c9 6 = .ok (.lload_n 0, 1) := by decide +kernel
theorem dJ9_max_f86c9_7 : decode cJ9_max_f86c9 7 = .ok (.goto 4, 3) := by decide +kernel
theorem dJ9_max_f86c9_10 : decode cJ9_max_f86c9 10 = .ok (.lload_n 2, 1) := by decide +kernel
theorem dJ9_max_f86c9_11 : decode cJ9_max_f86c9 11 = .ok (.lreturn, 1) := by decide +kernel
theorem dJ9_min_7cf53_0 : decode cJ9_min_7cf53 0 = .ok (.iload_n 0, 1) := by decide +kernel
theorem dJ9_min_7cf53_1 : decode cJ9_min_7cf53 1 = .ok (.iload_n 1, 1) := by decide +kernel
theorem dJ9_min_7cf53_2 : decode cJ9_min_7cf53 2 = .ok (.if_icmp .gt 7, 3) := by decide +kernel
theorem dJ9_min_7cf53_5 : decode cJ9_min_7cf53 5 = .ok (.iload_n 0, 1) := by decide +kernel
theorem dJ9_min_7cf53_6 : decode cJ9_min_7cf53 6 = .ok (.goto 4, 3) := by decide +kernel
theorem dJ9_min_7cf53_9 : decode cJ9_min_7cf53 9 = .ok (.iload_n 1, 1) := by decide +kernel
theorem dJ9_min_7cf53_10 : decode cJ9_min_7cf53 10 = .ok (.ireturn, 1) := by decide +kernel
set_option maxRecDepth 20000 in
theorem ggJ0_length_8abf5_J0_coder_7d493 : GoodIn wsJ0_length_8abf5 wsJ0_coder_7d493 := goodIn_r _ [6, 7, 8] (by decide +kernel) (by decide +kernel)
set_option maxRecDepth 20000 in
theorem gJ0_length_8abf5_J0_coder_7d493 : GoodIn wsJ0_length_8abf5 (wsV RJ0 335 RJ0 yJ0_coder_7d493 wsJ0_coder_7d493) := goodIn_app (goodIn_of _ (by decide +kernel)) ggJ0_length_8abf5_J0_coder_7d493
theorem dJ0_length_8abf5_0 : decode cJ0_length_8abf5 0 = .ok (.aload_n 0, 1) := by decide +kernel
theorem dJ0_length_8abf5_1 : decode cJ0_length_8abf5 1 = .ok (.getfield 9, 3) := by decide +kernel
theorem dJ0_length_8abf5_4 : decode cJ0_length_8abf5 4 = .ok (.arraylength, 1) := by decide +kernel
theorem dJ0_length_8abf5_5 : decode cJ0_length_8abf5 5 = .ok (.aload_n 0, 1) := by decide +kernel
theorem dJ0_length_8abf5_6 : decode cJ0_length_8abf5 6 = .ok (.invokevirtual 335, 3) := by decide +kernel
theorem dJ0_length_8abf5_9 : decode cJ0_length_8abf5 9 = .ok (.ishr, 1) := by decide +kernel
theorem dJ0_length_8abf5_10 : decode cJ0_length_8abf5 10 = .ok (.ireturn, 1) := by decide +kernel
set_option maxRecDepth 20000 in
theorem ggJ0_charAt_5068e_J0_isLatin1_aae02 : GoodIn wsJ0_charAt_5068e wsJ0_isLatin1_aae02 := goodIn_r _ [6, 7, 8] (by decide +kernel) (by decide +kernel)
set_option maxRecDepth 20000 in
theorem gJ0_charAt_5068e_J0_isLatin1_aae02 : GoodIn wsJ0_charAt_5068e (wsV RJ0 492 RJ0 yJ0_isLatin1_aae02 wsJ0_isLatin1_aae02) := goodIn_app (goodIn_of _ (by decide +kernel)) ggJ0_charAt_5068e_J0_isLatin1_aae02
set_option maxRecDepth 20000 in
theorem ggJ0_charAt_5068e_J1_charAt_3b067 : GoodIn wsJ0_charAt_5068e wsJ1_charAt_3b067 := goodIn_r _ [12, 13, 14, 5, 15, 16, 17, 18, 19, 20] (by decide +kernel) (by decide +kernel)
set_option maxRecDepth 20000 in
theorem gJ0_charAt_5068e_J1_charAt_3b067 : GoodIn wsJ0_charAt_5068e (va_wsS RJ0 495 yJ1_charAt_3b067 wsJ1_charAt_3b067) := goodIn_app (goodIn_of _ (by decide +kernel)) ggJ0_charAt_5068e_J1_charAt_3b067
set_option maxRecDepth 20000 in
theorem ggJ0_charAt_5068e_J2_charAt_3b067 : GoodIn wsJ0_charAt_5068e wsJ2_charAt_3b067 := goodIn_r _ [24, 25, 26, 23, 27, 28, 29, 30, 31, 14, 5, 15, 16, 17, 18, 19, 20, 32, 33, 34, 35, 36, 37] (by decide +kernel) (by decide +kernel)
set_option maxRecDepth 20000 in
theorem gJ0_charAt_5068e_J2_charAt_3b067 : GoodIn wsJ0_charAt_5068e (va_wsS RJ0 498 yJ2_charAt_3b067 wsJ2_charAt_3b067) := goodIn_app (goodIn_of _ (by decide +kernel)) ggJ0_charAt_5068e_J2_charAt_3b067
theorem dJ0_charAt_5068e_0 : decode cJ0_charAt_5068e 0 = .ok (.aload_n 0, 1) := by decide +kernel
theorem dJ0_charAt_5068e_1 : decode cJ0_charAt_5068e 1 = .ok (.invokevirtual 492, 3) := by decide +kernel
theorem dJ0_charAt_5068e_4 : decode cJ0_charAt_5068e 4 = .ok (.ifCond .eq 12, 3) := by decide +kernel
theorem dJ0_charAt_5068e_7 : decode cJ0_charAt_5068e 7 = .ok (.aload_n 0, 1) := by decide +kernel
theorem dJ0_charAt_5068e_8 : decode cJ0_charAt_5068e 8 = .ok (.getfield 9, 3) := by decide +kernel
theorem dJ0_charAt_5068e_11 : decode cJ0_charAt_5068e 11 = .ok (.iload_n 1, 1) := by decide +kernel
theorem dJ0_charAt_5068e_12 : decode cJ0_charAt_5068e 12 = .ok (.invokestatic 495, 3) := by decide +kernel
theorem dJ0_charAt_5068e_15 : decode cJ0_charAt_5068e 15 = .ok (.ireturn, 1) := by decide +kernel
theorem dJ0_charAt_5068e_16 : decode cJ0_charAt_5068e 16 = .ok (.aload_n 0, 1) := by decide +kernel
theorem dJ0_charAt_5068e_17 : decode cJ0_charAt_5068e 17 = .ok (.getfield 9, 3) := by decide +kernel
theorem dJ0_charAt_5068e_20 : decode cJ0_charAt_5068e 20 = .ok (.iload_n 1, 1) := by decide +kernel
theorem dJ0_charAt_5068e_21 : decode cJ0_charAt_5068e 21 = .ok (.invokestatic 498, 3) := by decide +kernel
theorem dJ0_charAt_5068e_24 : decode cJ0_charAt_5068e 24 = .ok (.ireturn, 1) := by decide +kernel
theorem dJ0_coder_7d493_0 : decode cJ0_coder_7d493 0 = .ok (.getstatic 38, 3) := by decide +kernel
theorem dJ0_coder_7d493_3 : decode cJ0_coder_7d493 3 = .ok (.ifCond .eq 10, 3) := by decide +kernel
theorem dJ0_coder_7d493_6 : decode cJ0_coder_7d493 6 = .ok (.aload_n 0, 1) := by decide +kernel
theorem dJ0_coder_7d493_7 : decode cJ0_coder_7d493 7 = .ok (.getfield 15, 3) := by decide +kernel
theorem dJ0_coder_7d493_10 : decode cJ0_coder_7d493 10 = .ok (.goto 4, 3) := by decide +kernel
theorem dJ0_coder_7d493_13 : decode cJ0_coder_7d493 13 = .ok (.iconst 1, 1) := by decide +kernel
theorem dJ0_coder_7d493_14 : decode cJ0_coder_7d493 14 = .ok (.ireturn, 1) := by decide +kernel
theorem dJ0_isLatin1_aae02_0 : decode cJ0_isLatin1_aae02 0 = .ok (.getstatic 38, 3) := by decide +kernel
theorem dJ0_isLatin1_aae02_3 : decode cJ0_isLatin1_aae02 3 = .ok (.ifCond .eq 14, 3) := by decide +kernel
theorem dJ0_isLatin1_aae02_6 : decode cJ0_isLatin1_aae02 6 = .ok (.aload_n 0, 1) := by decide +kernel
theorem dJ0_isLatin1_aae02_7 : decode cJ0_isLatin1_aae02 7 = .ok (.getfield 15, 3) := by decide +kernel
theorem dJ0_isLatin1_aae02_10 : decode cJ0_isLatin1_aae02 10 = .ok (.ifCond .ne 7, 3) := by decide +kernel
theorem dJ0_isLatin1_aae02_13 : decode cJ0_isLatin1_aae02 13 = .ok (.iconst 1, 1) := by decide +kernel
theorem dJ0_isLatin1_aae02_14 : decode cJ0_isLatin1_aae02 14 = .ok (.goto 4, 3) := by decide +kernel
theorem dJ0_isLatin1_aae02_17 : decode cJ0_isLatin1_aae02 17 = .ok (.iconst 0, 1) := by decide +kernel
theorem dJ0_isLatin1_aae02_18 : decode cJ0_isLatin1_aae02 18 = .ok (.ireturn, 1) := by decide +kernel
set_option maxRecDepth 20000 in
theorem ggJ0_checkIndex_df160_J3_checkIndex_8e157 : GoodIn wsJ0_checkIndex_df160 wsJ3_checkIndex_8e157 := goodIn_r _ [5] (by decide +kernel) (by decide +kernel)
set_option maxRecDepth 20000 in
theorem gJ0_checkIndex_df160_J3_checkIndex_8e157 : GoodIn wsJ0_checkIndex_df160 (va_wsS RJ0 1059 yJ3_checkIndex_8e157 wsJ3_checkIndex_8e157) := goodIn_app (goodIn_of _ (by decide +kernel)) ggJ0_checkIndex_df160_J3_checkIndex_8e157
theorem dJ0_checkIndex_df160_0 : decode cJ0_checkIndex_df160 0 = .ok (.iload_n 0, 1) := by decide +kernel
theorem dJ0_checkIndex_df160_1 : decode cJ0_checkIndex_df160 1 = .ok (.iload_n 1, 1) := by decide +kernel
theorem dJ0_checkIndex_df160_2 : decode cJ0_checkIndex_df160 2 = .ok (.getstatic 1053, 3) := by decide +kernel
theorem dJ0_checkIndex_df160_5 : decode cJ0_checkIndex_df160 5 = .ok (.invokestatic 1059, 3) := by decide +kernel
theorem dJ0_checkIndex_df160_8 : decode cJ0_checkIndex_df160 8 = .ok (.pop, 1) := by decide +kernel
theorem dJ0_checkIndex_df160_9 : decode cJ0_checkIndex_df160 9 = .ok (.return_, 1) := by decide +kernel
set_option maxRecDepth 20000 in
theorem ggJ1_charAt_3b067_J0_checkIndex_df160 : GoodIn wsJ1_charAt_3b067 wsJ0_checkIndex_df160 := goodIn_r _ [4, 5, 6, 7, 8, 9] (by decide +kernel) (by decide +kernel)
set_option maxRecDepth 20000 in
theorem gJ1_charAt_3b067_J0_checkIndex_df160 : GoodIn wsJ1_charAt_3b067 (va_wsS RJ1 9 yJ0_checkIndex_df160 wsJ0_checkIndex_df160) := goodIn_app (goodIn_of _ (by decide +kernel)) ggJ1_charAt_3b067_J0_checkIndex_df160
theorem dJ1_charAt_3b067_0 : decode cJ1_charAt_3b067 0 = .ok (.iload_n 1, 1) := by decide +kernel
theorem dJ1_charAt_3b067_1 : decode cJ1_charAt_3b067 1 = .ok (.aload_n 0, 1) := by decide +kernel
theorem dJ1_charAt_3b067_2 : decode cJ1_charAt_3b067 2 = .ok (.arraylength, 1) := by decide +kernel
theorem dJ1_charAt_3b067_3 : decode cJ1_charAt_3b067 3 = .ok (.invokestatic 9, 3) := by decide +kernel
theorem dJ1_charAt_3b067_6 : decode cJ1_charAt_3b067 6 = .ok (.aload_n 0, 1) := by decide +kernel
theorem dJ1_charAt_3b067_7 : decode cJ1_charAt_3b067 7 = .ok (.iload_n 1, 1) := by decide +kernel
theorem dJ1_charAt_3b067_8 : decode cJ1_charAt_3b067 8 = .ok (.baload, 1) := by decide +kernel
theorem dJ1_charAt_3b067_9 : decode cJ1_charAt_3b067 9 = .ok (.sipush 255, 3) := by decide +kernel
theorem dJ1_charAt_3b067_12 : decode cJ1_charAt_3b067 12 = .ok (.iand, 1) := by decide +kernel
theorem dJ1_charAt_3b067_13 : decode cJ1_charAt_3b067 13 = .ok (.i2c, 1) := by decide +kernel
theorem dJ1_charAt_3b067_14 : decode cJ1_charAt_3b067 14 = .ok (.ireturn, 1) := by decide +kernel
set_option maxRecDepth 20000 in
theorem ggJ2_getChar_3b067_J2_length_9d52b : GoodIn wsJ2_getChar_3b067 wsJ2_length_9d52b := goodIn_r _ [7] (by decide +kernel) (by decide +kernel)
set_option maxRecDepth 20000 in
theorem gJ2_getChar_3b067_J2_length_9d52b : GoodIn wsJ2_getChar_3b067 (va_wsS RJ2 48 yJ2_length_9d52b wsJ2_length_9d52b) := goodIn_app (goodIn_of _ (by decide +kernel)) ggJ2_getChar_3b067_J2_length_9d52b
theorem dJ2_getChar_3b067_0 : decode cJ2_getChar_3b067 0 = .ok (.getstatic 44, 3) := by decide +kernel
theorem dJ2_getChar_3b067_3 : decode cJ2_getChar_3b067 3 = .ok (.ifCond .ne 25, 3) := by decide +kernel
theorem dJ2_getChar_3b067_6 : decode cJ2_getChar_3b067 6 = .ok (.iload_n 1, 1) := by decide +kernel
theorem dJ2_getChar_3b067_7 : decode cJ2_getChar_3b067 7 = .ok (.ifCond .lt 11, 3) := by decide +kernel
theorem dJ2_getChar_3b067_10 : decode cJ2_getChar_3b067 10 = .ok (.iload_n 1, 1) := by decide +kernel
theorem dJ2_getChar_3b067_11 : decode cJ2_getChar_3b067 11 = .ok (.aload_n 0, 1) := by decide +kernel
theorem dJ2_getChar_3b067_12 : decode cJ2_getChar_3b067 12 = .ok (.invokestatic 48, 3) := by decide +kernel
theorem dJ2_getChar_3b067_15 : decode cJ2_getChar_3b067 15 = .ok (.if_icmp .lt 13, 3) := by decide +kernel
theorem dJ2_getChar_3b067_18 : decode cJ2_getChar_3b067 18 = .ok (.new 52, 3) := by decide +kernel
theorem dJ2_getChar_3b067_21 : decode cJ2_getChar_3b067 21 = .ok (.dup, 1) := by decide +kernel
theorem dJ2_getChar_3b067_22 : decode cJ2_getChar_3b067 22 = .ok (.ldc 54, 2) := by decide +kernel
theorem dJ2_getChar_3b067_24 : decode cJ2_getChar_3b067 24 = .ok (.invokespecial 56, 3) := by decide +kernel
theorem dJ2_getChar_3b067_27 : decode cJ2_getChar_3b067 27 = .ok (.athrow, 1) := by decide +kernel
theorem dJ2_getChar_3b067_28 : decode cJ2_getChar_3b067 28 = .ok (.iload_n 1, 1) := by decide +kernel
theorem dJ2_getChar_3b067_29 : decode cJ2_getChar_3b067 29 = .ok (.iconst 1, 1) := by decide +kernel
theorem dJ2_getChar_3b067_30 : decode cJ2_getChar_3b067 30 = .ok (.ishl, 1) := by decide +kernel
theorem dJ2_getChar_3b067_31 : decode cJ2_getChar_3b067 31 = .ok (.istore_n 1, 1) := by decide +kernel
theorem dJ2_getChar_3b067_32 : decode cJ2_getChar_3b067 32 = .ok (.aload_n 0, 1) := by decide +kernel
theorem dJ2_getChar_3b067_33 : decode cJ2_getChar_3b067 33 = .ok (.iload_n 1, 1) := by decide +kernel
theorem dJ2_getChar_3b067_34 : decode cJ2_getChar_3b067 34 = .ok (.iinc 1 1, 3) := by decide +kernel
theorem dJ2_getChar_3b067_37 : decode cJ2_getChar_3b067 37 = .ok (.baload, 1) := by decide +kernel
theorem dJ2_getChar_3b067_38 : decode cJ2_getChar_3b067 38 = .ok (.sipush 255, 3) := by decide +kernel
theorem dJ2_getChar_3b067_41 : decode cJ2_getChar_3b067 41 = .ok (.iand, 1) := by decide +kernel
theorem dJ2_getChar_3b067_42 : decode cJ2_getChar_3b067 42 = .ok (.getstatic 59, 3) := by decide +kernel
theorem dJ2_getChar_3b067_45 : decode cJ2_getChar_3b067 45 = .ok (.ishl, 1) := by decide +kernel
theorem dJ2_getChar_3b067_46 : decode cJ2_getChar_3b067 46 = .ok (.aload_n 0, 1) := by decide +kernel
theorem dJ2_getChar_3b067_47 : decode cJ2_getChar_3b067 47 = .ok (.iload_n 1, 1) := by decide +kernel
theorem dJ2_getChar_3b067_48 : decode cJ2_getChar_3b067 48 = .ok (.baload, 1) := by decide +kernel
theorem dJ2_getChar_3b067_49 : decode cJ2_getChar_3b067 49 = .ok (.sipush 255, 3) := by decide +kernel
theorem dJ2_getChar_3b067_52 : decode cJ2_getChar_3b067 52 = .ok (.iand, 1) := by decide +kernel
theorem dJ2_getChar_3b067_53 : decode cJ2_getChar_3b067 53 = .ok (.getstatic 63, 3) := by decide +kernel
theorem dJ2_getChar_3b067_56 : decode cJ2_getChar_3b067 56 = .ok (.ishl, 1) := by decide +kernel
theorem dJ2_getChar_3b067_57 : decode cJ2_getChar_3b067 57 = .ok (.ior, 1) := by decide +kernel
theorem dJ2_getChar_3b067_58 : decode cJ2_getChar_3b067 58 = .ok (.i2c, 1) := by decide +kernel
theorem dJ2_getChar_3b067_59 : decode cJ2_getChar_3b067 59 = .ok (.ireturn, 1) := by decide +kernel
theorem dJ2_length_9d52b_0 : decode cJ2_length_9d52b 0 = .ok (.aload_n 0, 1) := by decide +kernel
theorem dJ2_length_9d52b_1 : decode cJ2_length_9d52b 1 = .ok (.arraylength, 1) := by decide +kernel
theorem dJ2_length_9d52b_2 : decode cJ2_length_9d52b 2 = .ok (.iconst 1, 1) := by decide +kernel
theorem dJ2_length_9d52b_3 : decode cJ2_length_9d52b 3 = .ok (.ishr, 1) := by decide +kernel
theorem dJ2_length_9d52b_4 : decode cJ2_length_9d52b 4 = .ok (.ireturn, 1) := by decide +kernel
set_option maxRecDepth 20000 in
theorem ggJ2_charAt_3b067_J2_checkIndex_2214a : GoodIn wsJ2_charAt_3b067 wsJ2_checkIndex_2214a := goodIn_r _ [4, 5, 6, 3, 7, 8, 9, 10, 11, 12, 13, 14, 15, 16] (by decide +kernel) (by decide +kernel)
set_option maxRecDepth 20000 in
theorem gJ2_charAt_3b067_J2_checkIndex_2214a : GoodIn wsJ2_charAt_3b067 (va_wsS RJ2 67 yJ2_checkIndex_2214a wsJ2_checkIndex_2214a) := goodIn_app (goodIn_of _ (by decide +kernel)) ggJ2_charAt_3b067_J2_checkIndex_2214a
set_option maxRecDepth 20000 in
theorem ggJ2_charAt_3b067_J2_getChar_3b067 : GoodIn wsJ2_charAt_3b067 wsJ2_getChar_3b067 := goodIn_r _ [19, 20, 21, 22, 5, 6, 3, 7] (by decide +kernel) (by decide +kernel)
set_option maxRecDepth 20000 in
theorem gJ2_charAt_3b067_J2_getChar_3b067 : GoodIn wsJ2_charAt_3b067 (va_wsS RJ2 71 yJ2_getChar_3b067 wsJ2_getChar_3b067) := goodIn_app (goodIn_of _ (by decide +kernel)) ggJ2_charAt_3b067_J2_getChar_3b067
theorem dJ2_charAt_3b067_0 : decode cJ2_charAt_3b067 0 = .ok (.iload_n 1, 1) := by decide +kernel
theorem dJ2_charAt_3b067_1 : decode cJ2_charAt_3b067 1 = .ok (.aload_n 0, 1) := by decide +kernel
theorem dJ2_charAt_3b067_2 : decode cJ2_charAt_3b067 2 = .ok (.invokestatic 67, 3) := by decide +kernel
theorem dJ2_charAt_3b067_5 : decode cJ2_charAt_3b067 5 = .ok (.aload_n 0, 1) := by decide +kernel
theorem dJ2_charAt_3b067_6 : decode cJ2_charAt_3b067 6 = .ok (.iload_n 1, 1) := by decide +kernel
theorem dJ2_charAt_3b067_7 : decode cJ2_charAt_3b067 7 = .ok (.invokestatic 71, 3) := by decide +kernel
theorem dJ2_charAt_3b067_10 : decode cJ2_charAt_3b067 10 = .ok (.ireturn, 1) := by decide +kernel
set_option maxRecDepth 20000 in
theorem ggJ2_checkIndex_2214a_J2_length_9d52b : GoodIn wsJ2_checkIndex_2214a wsJ2_length_9d52b := goodIn_r _ [4] (by decide +kernel) (by decide +kernel)
set_option maxRecDepth 20000 in
theorem gJ2_checkIndex_2214a_J2_length_9d52b : GoodIn wsJ2_checkIndex_2214a (va_wsS RJ2 48 yJ2_length_9d52b wsJ2_length_9d52b) := goodIn_app (goodIn_of _ (by decide +kernel)) ggJ2_checkIndex_2214a_J2_length_9d52b
set_option maxRecDepth 20000 in
theorem ggJ2_checkIndex_2214a_J0_checkIndex_df160 : GoodIn wsJ2_checkIndex_2214a wsJ0_checkIndex_df160 := goodIn_r _ [8, 9, 10, 11, 12, 13] (by decide +kernel) (by decide +kernel)
set_option maxRecDepth 20000 in
theorem gJ2_checkIndex_2214a_J0_checkIndex_df160 : GoodIn wsJ2_checkIndex_2214a (va_wsS RJ2 414 yJ0_checkIndex_df160 wsJ0_checkIndex_df160) := goodIn_app (goodIn_of _ (by decide +kernel)) ggJ2_checkIndex_2214a_J0_checkIndex_df160
theorem dJ2_checkIndex_2214a_0 : decode cJ2_checkIndex_2214a 0 = .ok (.iload_n 0, 1) := by decide +kernel
theorem dJ2_checkIndex_2214a_1 : decode cJ2_checkIndex_2214a 1 = .ok (.aload_n 1, 1) := by decide +kernel
theorem dJ2_checkIndex_2214a_2 : decode cJ2_checkIndex_2214a 2 = .ok (.invokestatic 48, 3) := by decide +kernel
theorem dJ2_checkIndex_2214a_5 : decode cJ2_checkIndex_2214a 5 = .ok (.invokestatic 414, 3) := by decide +kernel
theorem dJ2_checkIndex_2214a_8 : decode cJ2_checkIndex_2214a 8 = .ok (.return_, 1) := by decide +kernel
theorem dJ3_checkIndex_8e157_0 : decode cJ3_checkIndex_8e157 0 = .ok (.iload_n 0, 1) := by decide +kernel
theorem dJ3_checkIndex_8e157_1 : decode cJ3_checkIndex_8e157 1 = .ok (.ifCond .lt 8, 3) := by decide +kernel
theorem dJ3_checkIndex_8e157_4 : decode cJ3_checkIndex_8e157 4 = .ok (.iload_n 0, 1) := by decide +kernel
theorem dJ3_checkIndex_8e157_5 : decode cJ3_checkIndex_8e157 5 = .ok (.iload_n 1, 1) := by decide +kernel
theorem dJ3_checkIndex_8e157_6 : decode cJ3_checkIndex_8e157 6 = .ok (.if_icmp .lt 10, 3) := by decide +kernel
theorem dJ3_checkIndex_8e157_9 : decode cJ3_checkIndex_8e157 9 = .ok (.aload_n 2, 1) := by decide +kernel
theorem dJ3_checkIndex_8e157_10 : decode cJ3_checkIndex_8e157 10 = .ok (.iload_n 0, 1) := by decide +kernel
theorem dJ3_checkIndex_8e157_11 : decode cJ3_checkIndex_8e157 11 = .ok (.iload_n 1, 1) := by decide +kernel
theorem dJ3_checkIndex_8e157_12 : decode cJ3_checkIndex_8e157 12 = .ok (.invokestatic 95, 3) := by decide +kernel
theorem dJ3_checkIndex_8e157_15 : decode cJ3_checkIndex_8e157 15 = .ok (.athrow, 1) := by decide +kernel
theorem dJ3_checkIndex_8e157_16 : decode cJ3_checkIndex_8e157 16 = .ok (.iload_n 0, 1) := by decide +kernel
theorem dJ3_checkIndex_8e157_17 : decode cJ3_checkIndex_8e157 17 = .ok (.ireturn, 1) := by decide +kernel
abbrev vwCl : List vw_C := [(RX1, TX1, 13), (RX2, TX2, 6), (RX3, TX3, 5), (RX4, TX4, 4), (RX6, TX6, 10), (RX7, TX7, 10), (RX8, TX8, 4), (RX9, TX9, 14), (RX10, TX10, 46)]
