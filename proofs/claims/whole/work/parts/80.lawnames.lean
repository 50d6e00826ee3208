set_option maxRecDepth 20000 in
theorem wsL_law_r1_in : ∀ w ∈ wsL_law_r1, w ∈ lw_tbl := fun w h => (goodIn_p wsL_law_r1 [99, 102] rfl (by decide +kernel) w h).1
set_option maxRecDepth 20000 in
theorem wsL_law_r2_in : ∀ w ∈ wsL_law_r2, w ∈ lw_tbl := fun w h => (goodIn_p wsL_law_r2 [107] rfl (by decide +kernel) w h).1
set_option maxRecDepth 20000 in
theorem wsL_law_r3_in : ∀ w ∈ wsL_law_r3, w ∈ lw_tbl := fun w h => (goodIn_p wsL_law_r3 [111, 135, 165, 202, 242] rfl (by decide +kernel) w h).1
set_option maxRecDepth 20000 in
theorem wsL_law_r4_in : ∀ w ∈ wsL_law_r4, w ∈ lw_tbl := fun w h => (goodIn_p wsL_law_r4 [269, 276, 876] rfl (by decide +kernel) w h).1
set_option maxRecDepth 20000 in
theorem wsL_law_r5_in : ∀ w ∈ wsL_law_r5, w ∈ lw_tbl := fun w h => (goodIn_p wsL_law_r5 [384, 388, 392] rfl (by decide +kernel) w h).1
set_option maxRecDepth 20000 in
theorem wsL_law_r6_in : ∀ w ∈ wsL_law_r6, w ∈ lw_tbl := fun w h => (goodIn_p wsL_law_r6 [396, 1019, 1023, 400] rfl (by decide +kernel) w h).1
set_option maxRecDepth 20000 in
theorem wsL_law_r7_in : ∀ w ∈ wsL_law_r7, w ∈ lw_tbl := fun w h => (goodIn_p wsL_law_r7 [404, 410, 414, 418, 422] rfl (by decide +kernel) w h).1
set_option maxRecDepth 20000 in
theorem wsL_law_r8_in : ∀ w ∈ wsL_law_r8, w ∈ lw_tbl := fun w h => (goodIn_p wsL_law_r8 [426, 1027, 430, 434, 1033] rfl (by decide +kernel) w h).1
set_option maxRecDepth 20000 in
theorem wsL_law_r9_in : ∀ w ∈ wsL_law_r9, w ∈ lw_tbl := fun w h => (goodIn_p wsL_law_r9 [439, 443, 455, 448, 452, 459] rfl (by decide +kernel) w h).1
set_option maxRecDepth 20000 in
theorem wsL_law_r10_in : ∀ w ∈ wsL_law_r10, w ∈ lw_tbl := fun w h => (goodIn_p wsL_law_r10 [463, 467, 471, 475] rfl (by decide +kernel) w h).1
set_option maxRecDepth 20000 in
theorem wsL_law_r11_in : ∀ w ∈ wsL_law_r11, w ∈ lw_tbl := fun w h => (goodIn_p wsL_law_r11 [479, 483, 491, 495] rfl (by decide +kernel) w h).1
set_option maxRecDepth 20000 in
theorem wsL_law_r12_in : ∀ w ∈ wsL_law_r12, w ∈ lw_tbl := fun w h => (goodIn_p wsL_law_r12 [499, 502, 510, 1037, 1041] rfl (by decide +kernel) w h).1
set_option maxRecDepth 20000 in
theorem wsL_law_r13_in : ∀ w ∈ wsL_law_r13, w ∈ lw_tbl := fun w h => (goodIn_p wsL_law_r13 [1045, 1049, 1053, 1056, 1059, 1064] rfl (by decide +kernel) w h).1
set_option maxRecDepth 20000 in
theorem wsL_law_r14_in : ∀ w ∈ wsL_law_r14, w ∈ lw_tbl := fun w h => (goodIn_p wsL_law_r14 [514, 518, 524] rfl (by decide +kernel) w h).1
set_option maxRecDepth 20000 in
theorem wsL_law_r15_in : ∀ w ∈ wsL_law_r15, w ∈ lw_tbl := fun w h => (goodIn_p wsL_law_r15 [529, 541, 545, 551] rfl (by decide +kernel) w h).1
set_option maxRecDepth 20000 in
theorem wsL_law_r16_in : ∀ w ∈ wsL_law_r16, w ∈ lw_tbl := fun w h => (goodIn_p wsL_law_r16 [558, 561, 564, 569, 574] rfl (by decide +kernel) w h).1
set_option maxRecDepth 20000 in
theorem wsL_law_r17_in : ∀ w ∈ wsL_law_r17, w ∈ lw_tbl := fun w h => (goodIn_p wsL_law_r17 [579, 583, 586, 589, 1206, 1210] rfl (by decide +kernel) w h).1
set_option maxRecDepth 20000 in
theorem wsL_law_r18_in : ∀ w ∈ wsL_law_r18, w ∈ lw_tbl := fun w h => (goodIn_p wsL_law_r18 [1215, 1219, 1223, 1229, 1232, 1235] rfl (by decide +kernel) w h).1
set_option maxRecDepth 20000 in
theorem wsL_law_r19_in : ∀ w ∈ wsL_law_r19, w ∈ lw_tbl := fun w h => (goodIn_p wsL_law_r19 [1239, 595, 599] rfl (by decide +kernel) w h).1
set_option maxRecDepth 20000 in
theorem wsL_law_r20_in : ∀ w ∈ wsL_law_r20, w ∈ lw_tbl := fun w h => (goodIn_p wsL_law_r20 [603, 606, 610, 615, 620] rfl (by decide +kernel) w h).1
set_option maxRecDepth 20000 in
theorem wsL_law_r21_in : ∀ w ∈ wsL_law_r21, w ∈ lw_tbl := fun w h => (goodIn_p wsL_law_r21 [624, 628, 632, 636, 643] rfl (by decide +kernel) w h).1
set_option maxRecDepth 20000 in
theorem wsL_law_r22_in : ∀ w ∈ wsL_law_r22, w ∈ lw_tbl := fun w h => (goodIn_p wsL_law_r22 [649, 653, 1068, 1072] rfl (by decide +kernel) w h).1
set_option maxRecDepth 20000 in
theorem wsL_law_r23_in : ∀ w ∈ wsL_law_r23, w ∈ lw_tbl := fun w h => (goodIn_p wsL_law_r23 [1076, 1080, 1084, 1088, 1092] rfl (by decide +kernel) w h).1
set_option maxRecDepth 20000 in
theorem wsL_law_r24_in : ∀ w ∈ wsL_law_r24, w ∈ lw_tbl := fun w h => (goodIn_p wsL_law_r24 [1096, 1100, 1104, 1108, 1112] rfl (by decide +kernel) w h).1
set_option maxRecDepth 20000 in
theorem wsL_law_r25_in : ∀ w ∈ wsL_law_r25, w ∈ lw_tbl := fun w h => (goodIn_p wsL_law_r25 [657, 661] rfl (by decide +kernel) w h).1
set_option maxRecDepth 20000 in
theorem wsL_law_r26_in : ∀ w ∈ wsL_law_r26, w ∈ lw_tbl := fun w h => (goodIn_p wsL_law_r26 [666, 670, 675, 679, 683] rfl (by decide +kernel) w h).1
set_option maxRecDepth 20000 in
theorem wsL_law_r27_in : ∀ w ∈ wsL_law_r27, w ∈ lw_tbl := fun w h => (goodIn_p wsL_law_r27 [688, 691, 694, 700, 703] rfl (by decide +kernel) w h).1
set_option maxRecDepth 20000 in
theorem wsL_law_r28_in : ∀ w ∈ wsL_law_r28, w ∈ lw_tbl := fun w h => (goodIn_p wsL_law_r28 [707, 713, 717, 721, 727] rfl (by decide +kernel) w h).1
set_option maxRecDepth 20000 in
theorem wsL_law_r29_in : ∀ w ∈ wsL_law_r29, w ∈ lw_tbl := fun w h => (goodIn_p wsL_law_r29 [733, 738, 742, 748, 752] rfl (by decide +kernel) w h).1
set_option maxRecDepth 20000 in
theorem wsL_law_r30_in : ∀ w ∈ wsL_law_r30, w ∈ lw_tbl := fun w h => (goodIn_p wsL_law_r30 [755, 758, 763, 766, 769, 772, 776] rfl (by decide +kernel) w h).1
set_option maxRecDepth 20000 in
theorem wsL_law_r31_in : ∀ w ∈ wsL_law_r31, w ∈ lw_tbl := fun w h => (goodIn_p wsL_law_r31 [786, 791, 795, 799, 803] rfl (by decide +kernel) w h).1
set_option maxRecDepth 20000 in
theorem wsL_law_r32_in : ∀ w ∈ wsL_law_r32, w ∈ lw_tbl := fun w h => (goodIn_p wsL_law_r32 [809, 1116, 1120] rfl (by decide +kernel) w h).1
set_option maxRecDepth 20000 in
theorem wsL_law_r33_in : ∀ w ∈ wsL_law_r33, w ∈ lw_tbl := fun w h => (goodIn_p wsL_law_r33 [1124, 1128, 1131, 1135] rfl (by decide +kernel) w h).1
set_option maxRecDepth 20000 in
theorem wsL_law_r34_in : ∀ w ∈ wsL_law_r34, w ∈ lw_tbl := fun w h => (goodIn_p wsL_law_r34 [1141, 1149, 1153, 1158, 1162] rfl (by decide +kernel) w h).1
set_option maxRecDepth 20000 in
theorem wsL_law_r35_in : ∀ w ∈ wsL_law_r35, w ∈ lw_tbl := fun w h => (goodIn_p wsL_law_r35 [1166, 1171, 1175, 1182] rfl (by decide +kernel) w h).1
set_option maxRecDepth 20000 in
theorem wsL_law_r36_in : ∀ w ∈ wsL_law_r36, w ∈ lw_tbl := fun w h => (goodIn_p wsL_law_r36 [1189, 1193, 1198, 816, 1202, 820] rfl (by decide +kernel) w h).1
set_option maxRecDepth 20000 in
theorem wsL_law_r37_in : ∀ w ∈ wsL_law_r37, w ∈ lw_tbl := fun w h => (goodIn_p wsL_law_r37 [824, 827, 1243, 834, 1247] rfl (by decide +kernel) w h).1
set_option maxRecDepth 20000 in
theorem wsL_law_r38_in : ∀ w ∈ wsL_law_r38, w ∈ lw_tbl := fun w h => (goodIn_p wsL_law_r38 [838, 1251, 843, 1255, 848, 852] rfl (by decide +kernel) w h).1
set_option maxRecDepth 20000 in
theorem wsL_law_r39_in : ∀ w ∈ wsL_law_r39, w ∈ lw_tbl := fun w h => (goodIn_p wsL_law_r39 [1259, 858, 1263, 863, 1267] rfl (by decide +kernel) w h).1
set_option maxRecDepth 20000 in
theorem wsL_law_r40_in : ∀ w ∈ wsL_law_r40, w ∈ lw_tbl := fun w h => (goodIn_p wsL_law_r40 [868, 1271] rfl (by decide +kernel) w h).1
set_option maxRecDepth 20000 in
theorem wsX90_in : ∀ w ∈ wsX90, w ∈ lw_tbl := by decide +kernel
set_option maxRecDepth 20000 in
theorem wsX100_in : ∀ w ∈ wsX100, w ∈ lw_tbl := by decide +kernel
set_option maxRecDepth 20000 in
theorem wsX80_in : ∀ w ∈ wsX80, w ∈ lw_tbl := by decide +kernel
set_option maxRecDepth 20000 in
theorem wsX40_in : ∀ w ∈ wsX40, w ∈ lw_tbl := by decide +kernel
set_option maxRecDepth 20000 in
theorem wsX70_in : ∀ w ∈ wsX70, w ∈ lw_tbl := by decide +kernel
set_option maxRecDepth 20000 in
theorem wsX60_in : ∀ w ∈ wsX60, w ∈ lw_tbl := by decide +kernel
set_option maxRecDepth 20000 in
theorem wsX20_in : ∀ w ∈ wsX20, w ∈ lw_tbl := by decide +kernel
set_option maxRecDepth 20000 in
theorem wsX10_in : ∀ w ∈ wsX10, w ∈ lw_tbl := by decide +kernel
set_option maxRecDepth 20000 in
theorem wsX30_in : ∀ w ∈ wsX30, w ∈ lw_tbl := by decide +kernel
theorem wsL_law_in : ∀ w ∈ wsL_law, w ∈ lw_tbl := (sub_app (sub_app (sub_app (sub_app (sub_app (sub_app (sub_app (sub_app (sub_app (sub_app (sub_app wsL_law_r1_in (sub_app wsL_law_r2_in (sub_app wsL_law_r3_in (sub_app wsL_law_r4_in (sub_app wsL_law_r5_in (sub_app wsL_law_r6_in (sub_app wsL_law_r7_in (sub_app wsL_law_r8_in (sub_app wsL_law_r9_in (sub_app wsL_law_r10_in (sub_app wsL_law_r11_in (sub_app wsL_law_r12_in (sub_app wsL_law_r13_in (sub_app wsL_law_r14_in (sub_app wsL_law_r15_in (sub_app wsL_law_r16_in (sub_app wsL_law_r17_in (sub_app wsL_law_r18_in (sub_app wsL_law_r19_in (sub_app wsL_law_r20_in (sub_app wsL_law_r21_in (sub_app wsL_law_r22_in (sub_app wsL_law_r23_in (sub_app wsL_law_r24_in (sub_app wsL_law_r25_in (sub_app wsL_law_r26_in (sub_app wsL_law_r27_in (sub_app wsL_law_r28_in (sub_app wsL_law_r29_in (sub_app wsL_law_r30_in (sub_app wsL_law_r31_in (sub_app wsL_law_r32_in (sub_app wsL_law_r33_in (sub_app wsL_law_r34_in (sub_app wsL_law_r35_in (sub_app wsL_law_r36_in (sub_app wsL_law_r37_in (sub_app wsL_law_r38_in (sub_app wsL_law_r39_in wsL_law_r40_in))))))))))))))))))))))))))))))))))))))) wsX90_in) wsX100_in) wsX80_in) wsX40_in) wsX70_in) wsX60_in) wsX20_in) wsX10_in) wsX30_in) (fun _ h => absurd h List.not_mem_nil))
theorem gL_law_X9_init : GoodIn wsL_law (wsX9_init) := goodL (wsX9_init_i)
theorem gL_law_X10_init : GoodIn wsL_law (wsX10_init) := goodL (wsX10_init_i)
theorem gL_law_X9_feed : GoodIn wsL_law (wsV RL 13 RX9 yX9_feed wsX9_feed) := goodL (inV u_107 u_108 u_109 u_2 wsX9_feed_i)
theorem gL_law_X10_feed : GoodIn wsL_law (wsV RL 17 RX10 yX10_feed wsX10_feed) := goodL (inV u_126 u_127 u_128 u_5 wsX10_feed_i)
theorem gL_law_X9_packet : GoodIn wsL_law (wsV RL 20 RX9 yX9_packet wsX9_packet) := goodL (inV u_135 u_136 u_137 u_2 wsX9_packet_i)
theorem gL_law_X10_packet : GoodIn wsL_law (wsV RL 24 RX10 yX10_packet wsX10_packet) := goodL (inV u_169 u_170 u_171 u_5 wsX10_packet_i)
theorem gL_law_X9_clear : GoodIn wsL_law (wsV RL 25 RX9 yX9_clear wsX9_clear) := goodL (inV u_177 u_178 u_179 u_2 wsX9_clear_i)
theorem gL_law_X10_clear : GoodIn wsL_law (wsV RL 29 RX10 yX10_clear wsX10_clear) := goodL (inV u_186 u_187 u_188 u_5 wsX10_clear_i)
theorem gL_law_X9_pages : GoodIn wsL_law (wsV RL 30 RX9 yX9_pages wsX9_pages) := goodL (inV u_190 u_191 u_192 u_2 wsX9_pages_i)
theorem gL_law_X10_pages : GoodIn wsL_law (wsV RL 34 RX10 yX10_pages wsX10_pages) := goodL (inV u_278 u_279 u_280 u_5 wsX10_pages_i)
theorem gL_law_X9_elements : GoodIn wsL_law (wsV RL 35 RX9 yX9_elements wsX9_elements) := goodL (inV u_312 u_313 u_314 u_2 wsX9_elements_i)
theorem gL_law_X10_elements_ : GoodIn wsL_law (wsV RL 39 RX10 yX10_elements_ wsX10_elements_) := goodL (inV u_398 u_399 u_400 u_5 wsX10_elements__i)
theorem gL_law_X9_readPages : GoodIn wsL_law (wsV RL 40 RX9 yX9_readPages wsX9_readPages) := goodL (inV u_436 u_437 u_438 u_2 wsX9_readPages_i)
theorem gL_law_X10_readPages : GoodIn wsL_law (wsV RL 44 RX10 yX10_readPages wsX10_readPages) := goodL (inV u_513 u_514 u_515 u_5 wsX10_readPages_i)
theorem gL_law_X9_readElements : GoodIn wsL_law (wsV RL 45 RX9 yX9_readElements wsX9_readElements) := goodL (inV u_573 u_574 u_575 u_2 wsX9_readElements_i)
theorem gL_law_X10_readElements : GoodIn wsL_law (wsV RL 48 RX10 yX10_readElements wsX10_readElements) := goodL (inV u_753 u_754 u_755 u_5 wsX10_readElements_i)
theorem gL_law_X9_wrong : GoodIn wsL_law (wsV RL 49 RX9 yX9_wrong wsX9_wrong) := goodL (inV u_850 u_851 u_852 u_2 wsX9_wrong_i)
theorem gL_law_X10_wrong : GoodIn wsL_law (wsV RL 52 RX10 yX10_wrong wsX10_wrong) := goodL (inV u_854 u_855 u_856 u_5 wsX10_wrong_i)
theorem gL_law_X9_turn : GoodIn wsL_law (wsV RL 53 RX9 yX9_turn wsX9_turn) := goodL (inV u_858 u_859 u_860 u_2 wsX9_turn_i)
theorem gL_law_X10_turn : GoodIn wsL_law (wsV RL 56 RX10 yX10_turn wsX10_turn) := goodL (inV u_873 u_874 u_875 u_5 wsX10_turn_i)
theorem gL_law_X9_count : GoodIn wsL_law (wsV RL 57 RX9 yX9_count wsX9_count) := goodL (inV u_877 u_878 u_879 u_2 wsX9_count_i)
theorem gL_law_X10_count : GoodIn wsL_law (wsV RL 60 RX10 yX10_count wsX10_count) := goodL (inV u_881 u_882 u_883 u_5 wsX10_count_i)
theorem gL_law_X9_size : GoodIn wsL_law (wsV RL 61 RX9 yX9_size wsX9_size) := goodL (inV u_885 u_886 u_887 u_2 wsX9_size_i)
theorem gL_law_X10_size : GoodIn wsL_law (wsV RL 64 RX10 yX10_size wsX10_size) := goodL (inV u_890 u_891 u_892 u_5 wsX10_size_i)
theorem gL_law_X9_time : GoodIn wsL_law (wsV RL 65 RX9 yX9_time wsX9_time) := goodL (inV u_894 u_895 u_896 u_2 wsX9_time_i)
theorem gL_law_X10_time : GoodIn wsL_law (wsV RL 69 RX10 yX10_time wsX10_time) := goodL (inV u_899 u_900 u_901 u_5 wsX10_time_i)
theorem gL_law_X9_octet : GoodIn wsL_law (wsV RL 70 RX9 yX9_octet wsX9_octet) := goodL (inV u_903 u_904 u_905 u_2 wsX9_octet_i)
theorem gL_law_X10_octet : GoodIn wsL_law (wsV RL 74 RX10 yX10_octet wsX10_octet) := goodL (inV u_913 u_914 u_915 u_5 wsX10_octet_i)
theorem gL_law_X9_out : GoodIn wsL_law (wsV RL 75 RX9 yX9_out wsX9_out) := goodL (inV u_917 u_918 u_919 u_2 wsX9_out_i)
theorem gL_law_X10_out : GoodIn wsL_law (wsV RL 78 RX10 yX10_out wsX10_out) := goodL (inV u_922 u_923 u_924 u_5 wsX10_out_i)
theorem gL_law_X9_patch : GoodIn wsL_law (wsV RL 79 RX9 yX9_patch wsX9_patch) := goodL (inV u_926 u_927 u_928 u_2 wsX9_patch_i)
theorem gL_law_X10_patch : GoodIn wsL_law (wsV RL 83 RX10 yX10_patch wsX10_patch) := goodL (inV u_931 u_932 u_933 u_5 wsX10_patch_i)
theorem gL_law_X9_sum : GoodIn wsL_law (wsV RL 84 RX9 yX9_sum wsX9_sum) := goodL (inV u_935 u_936 u_937 u_2 wsX9_sum_i)
theorem gL_law_X10_sum : GoodIn wsL_law (wsV RL 88 RX10 yX10_sum wsX10_sum) := goodL (inV u_942 u_943 u_944 u_5 wsX10_sum_i)
abbrev llL_law : List (Nat × Instr × Nat) := [(0, .new 7, 3), (3, .dup, 1), (4, .invokespecial 9, 3), (7, .astore_n 1, 1), (8, .new 10, 3), (11, .dup, 1), (12, .invokespecial 12, 3), (15, .astore_n 2, 1), (16, .iconst 0, 1), (17, .istore_n 3, 1), (18, .iload_n 3, 1), (19, .aload_n 0, 1), (20, .arraylength, 1), (21, .bipush 6, 2), (23, .isub, 1), (24, .if_icmp .gt 609, 3), (27, .aload_n 0, 1), (28, .iload_n 3, 1), (29, .iaload, 1), (30, .bipush 15, 2), (32, .iand, 1), (33, .tableswitch 594 0 15 #[79, 142, 205, 218, 261, 330, 353, 376, 399, 412, 435, 458, 482, 515, 538, 571], 79), (112, .aload_n 1, 1), (113, .aload_n 0, 1), (114, .iload_n 3, 1), (115, .iconst 1, 1), (116, .iadd, 1), (117, .iaload, 1), (118, .aload_n 0, 1), (119, .iload_n 3, 1), (120, .iconst 2, 1), (121, .iadd, 1), (122, .iaload, 1), (123, .aload_n 0, 1), (124, .iload_n 3, 1), (125, .iconst 3, 1), (126, .iadd, 1), (127, .iaload, 1), (128, .aload_n 0, 1), (129, .iload_n 3, 1), (130, .iconst 4, 1), (131, .iadd, 1), (132, .iaload, 1), (133, .aload_n 0, 1), (134, .iload_n 3, 1), (135, .iconst 5, 1), (136, .iadd, 1), (137, .iaload, 1), (138, .invokevirtual 13, 3), (141, .aload_n 2, 1), (142, .aload_n 0, 1), (143, .iload_n 3, 1), (144, .iconst 1, 1), (145, .iadd, 1), (146, .iaload, 1), (147, .aload_n 0, 1), (148, .iload_n 3, 1), (149, .iconst 2, 1), (150, .iadd, 1), (151, .iaload, 1)]
theorem ddL_law : dck cL_law llL_law = true := by decide +kernel
theorem dL_law_0 : decode cL_law 0 = .ok (.new 7, 3) := dck_at (q := (0, .new 7, 3)) ddL_law 0 rfl
theorem dL_law_3 : decode cL_law 3 = .ok (.dup, 1) := dck_at (q := (3, .dup, 1)) ddL_law 1 rfl
theorem dL_law_4 : decode cL_law 4 = .ok (.invokespecial 9, 3) := dck_at (q := (4, .invokespecial 9, 3)) ddL_law 2 rfl
theorem dL_law_7 : decode cL_law 7 = .ok (.astore_n 1, 1) := dck_at (q := (7, .astore_n 1, 1)) ddL_law 3 rfl
theorem dL_law_8 : decode cL_law 8 = .ok (.new 10, 3) := dck_at (q := (8, .new 10, 3)) ddL_law 4 rfl
theorem dL_law_11 : decode cL_law 11 = .ok (.dup, 1) := dck_at (q := (11, .dup, 1)) ddL_law 5 rfl
theorem dL_law_12 : decode cL_law 12 = .ok (.invokespecial 12, 3) := dck_at (q := (12, .invokespecial 12, 3)) ddL_law 6 rfl
theorem dL_law_15 : decode cL_law 15 = .ok (.astore_n 2, 1) := dck_at (q := (15, .astore_n 2, 1)) ddL_law 7 rfl
theorem dL_law_16 : decode cL_law 16 = .ok (.iconst 0, 1) := dck_at (q := (16, .iconst 0, 1)) ddL_law 8 rfl
theorem dL_law_17 : decode cL_law 17 = .ok (.istore_n 3, 1) := dck_at (q := (17, .istore_n 3, 1)) ddL_law 9 rfl
theorem dL_law_18 : decode cL_law 18 = .ok (.iload_n 3, 1) := dck_at (q := (18, .iload_n 3, 1)) ddL_law 10 rfl
theorem dL_law_19 : decode cL_law 19 = .ok (.aload_n 0, 1) := dck_at (q := (19, .aload_n 0, 1)) ddL_law 11 rfl
theorem dL_law_20 : decode cL_law 20 = .ok (.arraylength, 1) := dck_at (q := (20, .arraylength, 1)) ddL_law 12 rfl
theorem dL_law_21 : decode cL_law 21 = .ok (.bipush 6, 2) := dck_at (q := (21, .bipush 6, 2)) ddL_law 13 rfl
theorem dL_law_23 : decode cL_law 23 = .ok (.isub, 1) := dck_at (q := (23, .isub, 1)) ddL_law 14 rfl
theorem dL_law_24 : decode cL_law 24 = .ok (.if_icmp .gt 609, 3) := dck_at (q := (24, .if_icmp .gt 609, 3)) ddL_law 15 rfl
theorem dL_law_27 : decode cL_law 27 = .ok (.aload_n 0, 1) := dck_at (q := (27, .aload_n 0, 1)) ddL_law 16 rfl
theorem dL_law_28 : decode cL_law 28 = .ok (.iload_n 3, 1) := dck_at (q := (28, .iload_n 3, 1)) ddL_law 17 rfl
theorem dL_law_29 : decode cL_law 29 = .ok (.iaload, 1) := dck_at (q := (29, .iaload, 1)) ddL_law 18 rfl
theorem dL_law_30 : decode cL_law 30 = .ok (.bipush 15, 2) := dck_at (q := (30, .bipush 15, 2)) ddL_law 19 rfl
theorem dL_law_32 : decode cL_law 32 = .ok (.iand, 1) := dck_at (q := (32, .iand, 1)) ddL_law 20 rfl
theorem dL_law_33 : decode cL_law 33 = .ok (.tableswitch 594 0 15 #[79, 142, 205, 218, 261, 330, 353, 376, 399, 412, 435, 458, 482, 515, 538, 571], 79) := dck_at (q := (33, .tableswitch 594 0 15 #[79, 142, 205, 218, 261, 330, 353, 376, 399, 412, 435, 458, 482, 515, 538, 571], 79)) ddL_law 21 rfl
theorem dL_law_112 : decode cL_law 112 = .ok (.aload_n 1, 1) := dck_at (q := (112, .aload_n 1, 1)) ddL_law 22 rfl
theorem dL_law_113 : decode cL_law 113 = .ok (.aload_n 0, 1) := dck_at (q := (113, .aload_n 0, 1)) ddL_law 23 rfl
theorem dL_law_114 : decode cL_law 114 = .ok (.iload_n 3, 1) := dck_at (q := (114, .iload_n 3, 1)) ddL_law 24 rfl
theorem dL_law_115 : decode cL_law 115 = .ok (.iconst 1, 1) := dck_at (q := (115, .iconst 1, 1)) ddL_law 25 rfl
theorem dL_law_116 : decode cL_law 116 = .ok (.iadd, 1) := dck_at (q := (116, .iadd, 1)) ddL_law 26 rfl
theorem dL_law_117 : decode cL_law 117 = .ok (.iaload, 1) := dck_at (q := (117, .iaload, 1)) ddL_law 27 rfl
theorem dL_law_118 : decode cL_law 118 = .ok (.aload_n 0, 1) := dck_at (q := (118, .aload_n 0, 1)) ddL_law 28 rfl
theorem dL_law_119 : decode cL_law 119 = .ok (.iload_n 3, 1) := dck_at (q := (119, .iload_n 3, 1)) ddL_law 29 rfl
theorem dL_law_120 : decode cL_law 120 = .ok (.iconst 2, 1) := dck_at (q := (120, .iconst 2, 1)) ddL_law 30 rfl
theorem dL_law_121 : decode cL_law 121 = .ok (.iadd, 1) := dck_at (q := (121, .iadd, 1)) ddL_law 31 rfl
theorem dL_law_122 : decode cL_law 122 = .ok (.iaload, 1) := dck_at (q := (122, .iaload, 1)) ddL_law 32 rfl
theorem dL_law_123 : decode cL_law 123 = .ok (.aload_n 0, 1) := dck_at (q := (123, .aload_n 0, 1)) ddL_law 33 rfl
theorem dL_law_124 : decode cL_law 124 = .ok (.iload_n 3, 1) := dck_at (q := (124, .iload_n 3, 1)) ddL_law 34 rfl
theorem dL_law_125 : decode cL_law 125 = .ok (.iconst 3, 1) := dck_at (q := (125, .iconst 3, 1)) ddL_law 35 rfl
theorem dL_law_126 : decode cL_law 126 = .ok (.iadd, 1) := dck_at (q := (126, .iadd, 1)) ddL_law 36 rfl
theorem dL_law_127 : decode cL_law 127 = .ok (.iaload, 1) := dck_at (q := (127, .iaload, 1)) ddL_law 37 rfl
theorem dL_law_128 : decode cL_law 128 = .ok (.aload_n 0, 1) := dck_at (q := (128, .aload_n 0, 1)) ddL_law 38 rfl
theorem dL_law_129 : decode cL_law 129 = .ok (.iload_n 3, 1) := dck_at (q := (129, .iload_n 3, 1)) ddL_law 39 rfl
theorem dL_law_130 : decode cL_law 130 = .ok (.iconst 4, 1) := dck_at (q := (130, .iconst 4, 1)) ddL_law 40 rfl
theorem dL_law_131 : decode cL_law 131 = .ok (.iadd, 1) := dck_at (q := (131, .iadd, 1)) ddL_law 41 rfl
theorem dL_law_132 : decode cL_law 132 = .ok (.iaload, 1) := dck_at (q := (132, .iaload, 1)) ddL_law 42 rfl
theorem dL_law_133 : decode cL_law 133 = .ok (.aload_n 0, 1) := dck_at (q := (133, .aload_n 0, 1)) ddL_law 43 rfl
theorem dL_law_134 : decode cL_law 134 = .ok (.iload_n 3, 1) := dck_at (q := (134, .iload_n 3, 1)) ddL_law 44 rfl
theorem dL_law_135 : decode cL_law 135 = .ok (.iconst 5, 1) := dck_at (q := (135, .iconst 5, 1)) ddL_law 45 rfl
theorem dL_law_136 : decode cL_law 136 = .ok (.iadd, 1) := dck_at (q := (136, .iadd, 1)) ddL_law 46 rfl
theorem dL_law_137 : decode cL_law 137 = .ok (.iaload, 1) := dck_at (q := (137, .iaload, 1)) ddL_law 47 rfl
theorem dL_law_138 : decode cL_law 138 = .ok (.invokevirtual 13, 3) := dck_at (q := (138, .invokevirtual 13, 3)) ddL_law 48 rfl
theorem dL_law_141 : decode cL_law 141 = .ok (.aload_n 2, 1) := dck_at (q := (141, .aload_n 2, 1)) ddL_law 49 rfl
theorem dL_law_142 : decode cL_law 142 = .ok (.aload_n 0, 1) := dck_at (q := (142, .aload_n 0, 1)) ddL_law 50 rfl
theorem dL_law_143 : decode cL_law 143 = .ok (.iload_n 3, 1) := dck_at (q := (143, .iload_n 3, 1)) ddL_law 51 rfl
theorem dL_law_144 : decode cL_law 144 = .ok (.iconst 1, 1) := dck_at (q := (144, .iconst 1, 1)) ddL_law 52 rfl
theorem dL_law_145 : decode cL_law 145 = .ok (.iadd, 1) := dck_at (q := (145, .iadd, 1)) ddL_law 53 rfl
theorem dL_law_146 : decode cL_law 146 = .ok (.iaload, 1) := dck_at (q := (146, .iaload, 1)) ddL_law 54 rfl
theorem dL_law_147 : decode cL_law 147 = .ok (.aload_n 0, 1) := dck_at (q := (147, .aload_n 0, 1)) ddL_law 55 rfl
theorem dL_law_148 : decode cL_law 148 = .ok (.iload_n 3, 1) := dck_at (q := (148, .iload_n 3, 1)) ddL_law 56 rfl
theorem dL_law_149 : decode cL_law 149 = .ok (.iconst 2, 1) := dck_at (q := (149, .iconst 2, 1)) ddL_law 57 rfl
theorem dL_law_150 : decode cL_law 150 = .ok (.iadd, 1) := dck_at (q := (150, .iadd, 1)) ddL_law 58 rfl
theorem dL_law_151 : decode cL_law 151 = .ok (.iaload, 1) := dck_at (q := (151, .iaload, 1)) ddL_law 59 rfl
abbrev llL_law_1 : List (Nat × Instr × Nat) := [(152, .aload_n 0, 1), (153, .iload_n 3, 1), (154, .iconst 3, 1), (155, .iadd, 1), (156, .iaload, 1), (157, .aload_n 0, 1), (158, .iload_n 3, 1), (159, .iconst 4, 1), (160, .iadd, 1), (161, .iaload, 1), (162, .aload_n 0, 1), (163, .iload_n 3, 1), (164, .iconst 5, 1), (165, .iadd, 1), (166, .iaload, 1), (167, .invokevirtual 17, 3), (170, .if_icmp .eq 457, 3), (173, .iconst 0, 1), (174, .ireturn, 1), (175, .aload_n 1, 1), (176, .aload_n 0, 1), (177, .iload_n 3, 1), (178, .iconst 1, 1), (179, .iadd, 1), (180, .iaload, 1), (181, .aload_n 0, 1), (182, .iload_n 3, 1), (183, .iconst 2, 1), (184, .iadd, 1), (185, .iaload, 1), (186, .i2l, 1), (187, .bipush 32, 2), (189, .lshl, 1), (190, .aload_n 0, 1), (191, .iload_n 3, 1), (192, .iconst 3, 1), (193, .iadd, 1), (194, .iaload, 1), (195, .i2l, 1), (196, .ldc2_w 18, 3), (199, .land, 1), (200, .lor, 1), (201, .invokevirtual 20, 3), (204, .aload_n 2, 1), (205, .aload_n 0, 1), (206, .iload_n 3, 1), (207, .iconst 1, 1), (208, .iadd, 1), (209, .iaload, 1), (210, .aload_n 0, 1), (211, .iload_n 3, 1), (212, .iconst 2, 1), (213, .iadd, 1), (214, .iaload, 1), (215, .i2l, 1), (216, .bipush 32, 2), (218, .lshl, 1), (219, .aload_n 0, 1), (220, .iload_n 3, 1), (221, .iconst 3, 1)]
theorem ddL_law_1 : dck cL_law llL_law_1 = true := by decide +kernel
theorem dL_law_152 : decode cL_law 152 = .ok (.aload_n 0, 1) := dck_at (q := (152, .aload_n 0, 1)) ddL_law_1 0 rfl
theorem dL_law_153 : decode cL_law 153 = .ok (.iload_n 3, 1) := dck_at (q := (153, .iload_n 3, 1)) ddL_law_1 1 rfl
theorem dL_law_154 : decode cL_law 154 = .ok (.iconst 3, 1) := dck_at (q := (154, .iconst 3, 1)) ddL_law_1 2 rfl
theorem dL_law_155 : decode cL_law 155 = .ok (.iadd, 1) := dck_at (q := (155, .iadd, 1)) ddL_law_1 3 rfl
theorem dL_law_156 : decode cL_law 156 = .ok (.iaload, 1) := dck_at (q := (156, .iaload, 1)) ddL_law_1 4 rfl
theorem dL_law_157 : decode cL_law 157 = .ok (.aload_n 0, 1) := dck_at (q := (157, .aload_n 0, 1)) ddL_law_1 5 rfl
theorem dL_law_158 : decode cL_law 158 = .ok (.iload_n 3, 1) := dck_at (q := (158, .iload_n 3, 1)) ddL_law_1 6 rfl
theorem dL_law_159 : decode cL_law 159 = .ok (.iconst 4, 1) := dck_at (q := (159, .iconst 4, 1)) ddL_law_1 7 rfl
theorem dL_law_160 : decode cL_law 160 = .ok (.iadd, 1) := dck_at (q := (160, .iadd, 1)) ddL_law_1 8 rfl
theorem dL_law_161 : decode cL_law 161 = .ok (.iaload, 1) := dck_at (q := (161, .iaload, 1)) ddL_law_1 9 rfl
theorem dL_law_162 : decode cL_law 162 = .ok (.aload_n 0, 1) := dck_at (q := (162, .aload_n 0, 1)) ddL_law_1 10 rfl
theorem dL_law_163 : decode cL_law 163 = .ok (.iload_n 3, 1) := dck_at (q := (163, .iload_n 3, 1)) ddL_law_1 11 rfl
theorem dL_law_164 : decode cL_law 164 = .ok (.iconst 5, 1) := dck_at (q := (164, .iconst 5, 1)) ddL_law_1 12 rfl
theorem dL_law_165 : decode cL_law 165 = .ok (.iadd, 1) := dck_at (q := (165, .iadd, 1)) ddL_law_1 13 rfl
theorem dL_law_166 : decode cL_law 166 = .ok (.iaload, 1) := dck_at (q := (166, .iaload, 1)) ddL_law_1 14 rfl
theorem dL_law_167 : decode cL_law 167 = .ok (.invokevirtual 17, 3) := dck_at (q := (167, .invokevirtual 17, 3)) ddL_law_1 15 rfl
theorem dL_law_170 : decode cL_law 170 = .ok (.if_icmp .eq 457, 3) := dck_at (q := (170, .if_icmp .eq 457, 3)) ddL_law_1 16 rfl
theorem dL_law_173 : decode cL_law 173 = .ok (.iconst 0, 1) := dck_at (q := (173, .iconst 0, 1)) ddL_law_1 17 rfl
theorem dL_law_174 : decode cL_law 174 = .ok (.ireturn, 1) := dck_at (q := (174, .ireturn, 1)) ddL_law_1 18 rfl
theorem dL_law_175 : decode cL_law 175 = .ok (.aload_n 1, 1) := dck_at (q := (175, .aload_n 1, 1)) ddL_law_1 19 rfl
theorem dL_law_176 : decode cL_law 176 = .ok (.aload_n 0, 1) := dck_at (q := (176, .aload_n 0, 1)) ddL_law_1 20 rfl
theorem dL_law_177 : decode cL_law 177 = .ok (.iload_n 3, 1) := dck_at (q := (177, .iload_n 3, 1)) ddL_law_1 21 rfl
theorem dL_law_178 : decode cL_law 178 = .ok (.iconst 1, 1) := dck_at (q := (178, .iconst 1, 1)) ddL_law_1 22 rfl
theorem dL_law_179 : decode cL_law 179 = .ok (.iadd, 1) := dck_at (q := (179, .iadd, 1)) ddL_law_1 23 rfl
theorem dL_law_180 : decode cL_law 180 = .ok (.iaload, 1) := dck_at (q := (180, .iaload, 1)) ddL_law_1 24 rfl
theorem dL_law_181 : decode cL_law 181 = .ok (.aload_n 0, 1) := dck_at (q := (181, .aload_n 0, 1)) ddL_law_1 25 rfl
theorem dL_law_182 : decode cL_law 182 = .ok (.iload_n 3, 1) := dck_at (q := (182, .iload_n 3, 1)) ddL_law_1 26 rfl
theorem dL_law_183 : decode cL_law 183 = .ok (.iconst 2, 1) := dck_at (q := (183, .iconst 2, 1)) ddL_law_1 27 rfl
theorem dL_law_184 : decode cL_law 184 = .ok (.iadd, 1) := dck_at (q := (184, .iadd, 1)) ddL_law_1 28 rfl
theorem dL_law_185 : decode cL_law 185 = .ok (.iaload, 1) := dck_at (q := (185, .iaload, 1)) ddL_law_1 29 rfl
theorem dL_law_186 : decode cL_law 186 = .ok (.i2l, 1) := dck_at (q := (186, .i2l, 1)) ddL_law_1 30 rfl
theorem dL_law_187 : decode cL_law 187 = .ok (.bipush 32, 2) := dck_at (q := (187, .bipush 32, 2)) ddL_law_1 31 rfl
theorem dL_law_189 : decode cL_law 189 = .ok (.lshl, 1) := dck_at (q := (189, .lshl, 1)) ddL_law_1 32 rfl
theorem dL_law_190 : decode cL_law 190 = .ok (.aload_n 0, 1) := dck_at (q := (190, .aload_n 0, 1)) ddL_law_1 33 rfl
theorem dL_law_191 : decode cL_law 191 = .ok (.iload_n 3, 1) := dck_at (q := (191, .iload_n 3, 1)) ddL_law_1 34 rfl
theorem dL_law_192 : decode cL_law 192 = .ok (.iconst 3, 1) := dck_at (q := (192, .iconst 3, 1)) ddL_law_1 35 rfl
theorem dL_law_193 : decode cL_law 193 = .ok (.iadd, 1) := dck_at (q := (193, .iadd, 1)) ddL_law_1 36 rfl
theorem dL_law_194 : decode cL_law 194 = .ok (.iaload, 1) := dck_at (q := (194, .iaload, 1)) ddL_law_1 37 rfl
theorem dL_law_195 : decode cL_law 195 = .ok (.i2l, 1) := dck_at (q := (195, .i2l, 1)) ddL_law_1 38 rfl
theorem dL_law_196 : decode cL_law 196 = .ok (.ldc2_w 18, 3) := dck_at (q := (196, .ldc2_w 18, 3)) ddL_law_1 39 rfl
theorem dL_law_199 : decode cL_law 199 = .ok (.land, 1) := dck_at (q := (199, .land, 1)) ddL_law_1 40 rfl
theorem dL_law_200 : decode cL_law 200 = .ok (.lor, 1) := dck_at (q := (200, .lor, 1)) ddL_law_1 41 rfl
theorem dL_law_201 : decode cL_law 201 = .ok (.invokevirtual 20, 3) := dck_at (q := (201, .invokevirtual 20, 3)) ddL_law_1 42 rfl
theorem dL_law_204 : decode cL_law 204 = .ok (.aload_n 2, 1) := dck_at (q := (204, .aload_n 2, 1)) ddL_law_1 43 rfl
theorem dL_law_205 : decode cL_law 205 = .ok (.aload_n 0, 1) := dck_at (q := (205, .aload_n 0, 1)) ddL_law_1 44 rfl
theorem dL_law_206 : decode cL_law 206 = .ok (.iload_n 3, 1) := dck_at (q := (206, .iload_n 3, 1)) ddL_law_1 45 rfl
theorem dL_law_207 : decode cL_law 207 = .ok (.iconst 1, 1) := dck_at (q := (207, .iconst 1, 1)) ddL_law_1 46 rfl
theorem dL_law_208 : decode cL_law 208 = .ok (.iadd, 1) := dck_at (q := (208, .iadd, 1)) ddL_law_1 47 rfl
theorem dL_law_209 : decode cL_law 209 = .ok (.iaload, 1) := dck_at (q := (209, .iaload, 1)) ddL_law_1 48 rfl
theorem dL_law_210 : decode cL_law 210 = .ok (.aload_n 0, 1) := dck_at (q := (210, .aload_n 0, 1)) ddL_law_1 49 rfl
theorem dL_law_211 : decode cL_law 211 = .ok (.iload_n 3, 1) := dck_at (q := (211, .iload_n 3, 1)) ddL_law_1 50 rfl
theorem dL_law_212 : decode cL_law 212 = .ok (.iconst 2, 1) := dck_at (q := (212, .iconst 2, 1)) ddL_law_1 51 rfl
theorem dL_law_213 : decode cL_law 213 = .ok (.iadd, 1) := dck_at (q := (213, .iadd, 1)) ddL_law_1 52 rfl
theorem dL_law_214 : decode cL_law 214 = .ok (.iaload, 1) := dck_at (q := (214, .iaload, 1)) ddL_law_1 53 rfl
theorem dL_law_215 : decode cL_law 215 = .ok (.i2l, 1) := dck_at (q := (215, .i2l, 1)) ddL_law_1 54 rfl
theorem dL_law_216 : decode cL_law 216 = .ok (.bipush 32, 2) := dck_at (q := (216, .bipush 32, 2)) ddL_law_1 55 rfl
theorem dL_law_218 : decode cL_law 218 = .ok (.lshl, 1) := dck_at (q := (218, .lshl, 1)) ddL_law_1 56 rfl
theorem dL_law_219 : decode cL_law 219 = .ok (.aload_n 0, 1) := dck_at (q := (219, .aload_n 0, 1)) ddL_law_1 57 rfl
theorem dL_law_220 : decode cL_law 220 = .ok (.iload_n 3, 1) := dck_at (q := (220, .iload_n 3, 1)) ddL_law_1 58 rfl
theorem dL_law_221 : decode cL_law 221 = .ok (.iconst 3, 1) := dck_at (q := (221, .iconst 3, 1)) ddL_law_1 59 rfl
abbrev llL_law_2 : List (Nat × Instr × Nat) := [(222, .iadd, 1), (223, .iaload, 1), (224, .i2l, 1), (225, .ldc2_w 18, 3), (228, .land, 1), (229, .lor, 1), (230, .invokevirtual 24, 3), (233, .if_icmp .eq 394, 3), (236, .iconst 0, 1), (237, .ireturn, 1), (238, .aload_n 1, 1), (239, .invokevirtual 25, 3), (242, .aload_n 2, 1), (243, .invokevirtual 29, 3), (246, .if_icmp .eq 381, 3), (249, .iconst 0, 1), (250, .ireturn, 1), (251, .aload_n 1, 1), (252, .aload_n 0, 1), (253, .iload_n 3, 1), (254, .iconst 1, 1), (255, .iadd, 1), (256, .iaload, 1), (257, .aload_n 0, 1), (258, .iload_n 3, 1), (259, .iconst 2, 1), (260, .iadd, 1), (261, .iaload, 1), (262, .aload_n 0, 1), (263, .iload_n 3, 1), (264, .iconst 3, 1), (265, .iadd, 1), (266, .iaload, 1), (267, .invokevirtual 30, 3), (270, .aload_n 2, 1), (271, .aload_n 0, 1), (272, .iload_n 3, 1), (273, .iconst 1, 1), (274, .iadd, 1), (275, .iaload, 1), (276, .aload_n 0, 1), (277, .iload_n 3, 1), (278, .iconst 2, 1), (279, .iadd, 1), (280, .iaload, 1), (281, .aload_n 0, 1), (282, .iload_n 3, 1), (283, .iconst 3, 1), (284, .iadd, 1), (285, .iaload, 1), (286, .invokevirtual 34, 3), (289, .if_icmp .eq 338, 3), (292, .iconst 0, 1), (293, .ireturn, 1), (294, .aload_n 1, 1), (295, .aload_n 0, 1), (296, .iload_n 3, 1), (297, .iconst 1, 1), (298, .iadd, 1), (299, .iaload, 1)]
theorem ddL_law_2 : dck cL_law llL_law_2 = true := by decide +kernel
theorem dL_law_222 : decode cL_law 222 = .ok (.iadd, 1) := dck_at (q := (222, .iadd, 1)) ddL_law_2 0 rfl
theorem dL_law_223 : decode cL_law 223 = .ok (.iaload, 1) := dck_at (q := (223, .iaload, 1)) ddL_law_2 1 rfl
theorem dL_law_224 : decode cL_law 224 = .ok (.i2l, 1) := dck_at (q := (224, .i2l, 1)) ddL_law_2 2 rfl
theorem dL_law_225 : decode cL_law 225 = .ok (.ldc2_w 18, 3) := dck_at (q := (225, .ldc2_w 18, 3)) ddL_law_2 3 rfl
theorem dL_law_228 : decode cL_law 228 = .ok (.land, 1) := dck_at (q := (228, .land, 1)) ddL_law_2 4 rfl
theorem dL_law_229 : decode cL_law 229 = .ok (.lor, 1) := dck_at (q := (229, .lor, 1)) ddL_law_2 5 rfl
theorem dL_law_230 : decode cL_law 230 = .ok (.invokevirtual 24, 3) := dck_at (q := (230, .invokevirtual 24, 3)) ddL_law_2 6 rfl
theorem dL_law_233 : decode cL_law 233 = .ok (.if_icmp .eq 394, 3) := dck_at (q := (233, .if_icmp .eq 394, 3)) ddL_law_2 7 rfl
theorem dL_law_236 : decode cL_law 236 = .ok (.iconst 0, 1) := dck_at (q := (236, .iconst 0, 1)) ddL_law_2 8 rfl
theorem dL_law_237 : decode cL_law 237 = .ok (.ireturn, 1) := dck_at (q := (237, .ireturn, 1)) ddL_law_2 9 rfl
theorem dL_law_238 : decode cL_law 238 = .ok (.aload_n 1, 1) := dck_at (q := (238, .aload_n 1, 1)) ddL_law_2 10 rfl
theorem dL_law_239 : decode cL_law 239 = .ok (.invokevirtual 25, 3) := dck_at (q := (239, .invokevirtual 25, 3)) ddL_law_2 11 rfl
theorem dL_law_242 : decode cL_law 242 = .ok (.aload_n 2, 1) := dck_at (q := (242, .aload_n 2, 1)) ddL_law_2 12 rfl
theorem dL_law_243 : decode cL_law 243 = .ok (.invokevirtual 29, 3) := dck_at (q := (243, .invokevirtual 29, 3)) ddL_law_2 13 rfl
theorem dL_law_246 : decode cL_law 246 = .ok (.if_icmp .eq 381, 3) := dck_at (q := (246, .if_icmp .eq 381, 3)) ddL_law_2 14 rfl
theorem dL_law_249 : decode cL_law 249 = .ok (.iconst 0, 1) := dck_at (q := (249, .iconst 0, 1)) ddL_law_2 15 rfl
theorem dL_law_250 : decode cL_law 250 = .ok (.ireturn, 1) := dck_at (q := (250, .ireturn, 1)) ddL_law_2 16 rfl
theorem dL_law_251 : decode cL_law 251 = .ok (.aload_n 1, 1) := dck_at (q := (251, .aload_n 1, 1)) ddL_law_2 17 rfl
theorem dL_law_252 : decode cL_law 252 = .ok (.aload_n 0, 1) := dck_at (q := (252, .aload_n 0, 1)) ddL_law_2 18 rfl
theorem dL_law_253 : decode cL_law 253 = .ok (.iload_n 3, 1) := dck_at (q := (253, .iload_n 3, 1)) ddL_law_2 19 rfl
theorem dL_law_254 : decode cL_law 254 = .ok (.iconst 1, 1) := dck_at (q := (254, .iconst 1, 1)) ddL_law_2 20 rfl
theorem dL_law_255 : decode cL_law 255 = .ok (.iadd, 1) := dck_at (q := (255, .iadd, 1)) ddL_law_2 21 rfl
theorem dL_law_256 : decode cL_law 256 = .ok (.iaload, 1) := dck_at (q := (256, .iaload, 1)) ddL_law_2 22 rfl
theorem dL_law_257 : decode cL_law 257 = .ok (.aload_n 0, 1) := dck_at (q := (257, .aload_n 0, 1)) ddL_law_2 23 rfl
theorem dL_law_258 : decode cL_law 258 = .ok (.iload_n 3, 1) := dck_at (q := (258, .iload_n 3, 1)) ddL_law_2 24 rfl
theorem dL_law_259 : decode cL_law 259 = .ok (.iconst 2, 1) := dck_at (q := (259, .iconst 2, 1)) ddL_law_2 25 rfl
theorem dL_law_260 : decode cL_law 260 = .ok (.iadd, 1) := dck_at (q := (260, .iadd, 1)) ddL_law_2 26 rfl
theorem dL_law_261 : decode cL_law 261 = .ok (.iaload, 1) := dck_at (q := (261, .iaload, 1)) ddL_law_2 27 rfl
theorem dL_law_262 : decode cL_law 262 = .ok (.aload_n 0, 1) := dck_at (q := (262, .aload_n 0, 1)) ddL_law_2 28 rfl
theorem dL_law_263 : decode cL_law 263 = .ok (.iload_n 3, 1) := dck_at (q := (263, .iload_n 3, 1)) ddL_law_2 29 rfl
theorem dL_law_264 : decode cL_law 264 = .ok (.iconst 3, 1) := dck_at (q := (264, .iconst 3, 1)) ddL_law_2 30 rfl
theorem dL_law_265 : decode cL_law 265 = .ok (.iadd, 1) := dck_at (q := (265, .iadd, 1)) ddL_law_2 31 rfl
theorem dL_law_266 : decode cL_law 266 = .ok (.iaload, 1) := dck_at (q := (266, .iaload, 1)) ddL_law_2 32 rfl
theorem dL_law_267 : decode cL_law 267 = .ok (.invokevirtual 30, 3) := dck_at (q := (267, .invokevirtual 30, 3)) ddL_law_2 33 rfl
theorem dL_law_270 : decode cL_law 270 = .ok (.aload_n 2, 1) := dck_at (q := (270, .aload_n 2, 1)) ddL_law_2 34 rfl
theorem dL_law_271 : decode cL_law 271 = .ok (.aload_n 0, 1) := dck_at (q := (271, .aload_n 0, 1)) ddL_law_2 35 rfl
theorem dL_law_272 : decode cL_law 272 = .ok (.iload_n 3, 1) := dck_at (q := (272, .iload_n 3, 1)) ddL_law_2 36 rfl
theorem dL_law_273 : decode cL_law 273 = .ok (.iconst 1, 1) := dck_at (q := (273, .iconst 1, 1)) ddL_law_2 37 rfl
theorem dL_law_274 : decode cL_law 274 = .ok (.iadd, 1) := dck_at (q := (274, .iadd, 1)) ddL_law_2 38 rfl
theorem dL_law_275 : decode cL_law 275 = .ok (.iaload, 1) := dck_at (q := (275, .iaload, 1)) ddL_law_2 39 rfl
theorem dL_law_276 : decode cL_law 276 = .ok (.aload_n 0, 1) := dck_at (q := (276, .aload_n 0, 1)) ddL_law_2 40 rfl
theorem dL_law_277 : decode cL_law 277 = .ok (.iload_n 3, 1) := dck_at (q := (277, .iload_n 3, 1)) ddL_law_2 41 rfl
theorem dL_law_278 : decode cL_law 278 = .ok (.iconst 2, 1) := dck_at (q := (278, .iconst 2, 1)) ddL_law_2 42 rfl
theorem dL_law_279 : decode cL_law 279 = .ok (.iadd, 1) := dck_at (q := (279, .iadd, 1)) ddL_law_2 43 rfl
theorem dL_law_280 : decode cL_law 280 = .ok (.iaload, 1) := dck_at (q := (280, .iaload, 1)) ddL_law_2 44 rfl
theorem dL_law_281 : decode cL_law 281 = .ok (.aload_n 0, 1) := dck_at (q := (281, .aload_n 0, 1)) ddL_law_2 45 rfl
theorem dL_law_282 : decode cL_law 282 = .ok (.iload_n 3, 1) := dck_at (q := (282, .iload_n 3, 1)) ddL_law_2 46 rfl
theorem dL_law_283 : decode cL_law 283 = .ok (.iconst 3, 1) := dck_at (q := (283, .iconst 3, 1)) ddL_law_2 47 rfl
theorem dL_law_284 : decode cL_law 284 = .ok (.iadd, 1) := dck_at (q := (284, .iadd, 1)) ddL_law_2 48 rfl
theorem dL_law_285 : decode cL_law 285 = .ok (.iaload, 1) := dck_at (q := (285, .iaload, 1)) ddL_law_2 49 rfl
theorem dL_law_286 : decode cL_law 286 = .ok (.invokevirtual 34, 3) := dck_at (q := (286, .invokevirtual 34, 3)) ddL_law_2 50 rfl
theorem dL_law_289 : decode cL_law 289 = .ok (.if_icmp .eq 338, 3) := dck_at (q := (289, .if_icmp .eq 338, 3)) ddL_law_2 51 rfl
theorem dL_law_292 : decode cL_law 292 = .ok (.iconst 0, 1) := dck_at (q := (292, .iconst 0, 1)) ddL_law_2 52 rfl
theorem dL_law_293 : decode cL_law 293 = .ok (.ireturn, 1) := dck_at (q := (293, .ireturn, 1)) ddL_law_2 53 rfl
theorem dL_law_294 : decode cL_law 294 = .ok (.aload_n 1, 1) := dck_at (q := (294, .aload_n 1, 1)) ddL_law_2 54 rfl
theorem dL_law_295 : decode cL_law 295 = .ok (.aload_n 0, 1) := dck_at (q := (295, .aload_n 0, 1)) ddL_law_2 55 rfl
theorem dL_law_296 : decode cL_law 296 = .ok (.iload_n 3, 1) := dck_at (q := (296, .iload_n 3, 1)) ddL_law_2 56 rfl
theorem dL_law_297 : decode cL_law 297 = .ok (.iconst 1, 1) := dck_at (q := (297, .iconst 1, 1)) ddL_law_2 57 rfl
theorem dL_law_298 : decode cL_law 298 = .ok (.iadd, 1) := dck_at (q := (298, .iadd, 1)) ddL_law_2 58 rfl
theorem dL_law_299 : decode cL_law 299 = .ok (.iaload, 1) := dck_at (q := (299, .iaload, 1)) ddL_law_2 59 rfl
abbrev llL_law_3 : List (Nat × Instr × Nat) := [(300, .aload_n 0, 1), (301, .iload_n 3, 1), (302, .iconst 2, 1), (303, .iadd, 1), (304, .iaload, 1), (305, .aload_n 0, 1), (306, .iload_n 3, 1), (307, .iconst 3, 1), (308, .iadd, 1), (309, .iaload, 1), (310, .aload_n 0, 1), (311, .iload_n 3, 1), (312, .iconst 4, 1), (313, .iadd, 1), (314, .iaload, 1), (315, .ifCond .eq 7, 3), (318, .iconst 1, 1), (319, .goto 4, 3), (322, .iconst 0, 1), (323, .invokevirtual 35, 3), (326, .aload_n 2, 1), (327, .aload_n 0, 1), (328, .iload_n 3, 1), (329, .iconst 1, 1), (330, .iadd, 1), (331, .iaload, 1), (332, .aload_n 0, 1), (333, .iload_n 3, 1), (334, .iconst 2, 1), (335, .iadd, 1), (336, .iaload, 1), (337, .aload_n 0, 1), (338, .iload_n 3, 1), (339, .iconst 3, 1), (340, .iadd, 1), (341, .iaload, 1), (342, .aload_n 0, 1), (343, .iload_n 3, 1), (344, .iconst 4, 1), (345, .iadd, 1), (346, .iaload, 1), (347, .ifCond .eq 7, 3), (350, .iconst 1, 1), (351, .goto 4, 3), (354, .iconst 0, 1), (355, .invokevirtual 39, 3), (358, .if_icmp .eq 269, 3), (361, .iconst 0, 1), (362, .ireturn, 1), (363, .aload_n 1, 1), (364, .aload_n 0, 1), (365, .iload_n 3, 1), (366, .iconst 1, 1), (367, .iadd, 1), (368, .iaload, 1), (369, .invokevirtual 40, 3), (372, .aload_n 2, 1), (373, .aload_n 0, 1), (374, .iload_n 3, 1), (375, .iconst 1, 1)]
theorem ddL_law_3 : dck cL_law llL_law_3 = true := by decide +kernel
theorem dL_law_300 : decode cL_law 300 = .ok (.aload_n 0, 1) := dck_at (q := (300, .aload_n 0, 1)) ddL_law_3 0 rfl
theorem dL_law_301 : decode cL_law 301 = .ok (.iload_n 3, 1) := dck_at (q := (301, .iload_n 3, 1)) ddL_law_3 1 rfl
theorem dL_law_302 : decode cL_law 302 = .ok (.iconst 2, 1) := dck_at (q := (302, .iconst 2, 1)) ddL_law_3 2 rfl
theorem dL_law_303 : decode cL_law 303 = .ok (.iadd, 1) := dck_at (q := (303, .iadd, 1)) ddL_law_3 3 rfl
theorem dL_law_304 : decode cL_law 304 = .ok (.iaload, 1) := dck_at (q := (304, .iaload, 1)) ddL_law_3 4 rfl
theorem dL_law_305 : decode cL_law 305 = .ok (.aload_n 0, 1) := dck_at (q := (305, .aload_n 0, 1)) ddL_law_3 5 rfl
theorem dL_law_306 : decode cL_law 306 = .ok (.iload_n 3, 1) := dck_at (q := (306, .iload_n 3, 1)) ddL_law_3 6 rfl
theorem dL_law_307 : decode cL_law 307 = .ok (.iconst 3, 1) := dck_at (q := (307, .iconst 3, 1)) ddL_law_3 7 rfl
theorem dL_law_308 : decode cL_law 308 = .ok (.iadd, 1) := dck_at (q := (308, .iadd, 1)) ddL_law_3 8 rfl
theorem dL_law_309 : decode cL_law 309 = .ok (.iaload, 1) := dck_at (q := (309, .iaload, 1)) ddL_law_3 9 rfl
theorem dL_law_310 : decode cL_law 310 = .ok (.aload_n 0, 1) := dck_at (q := (310, .aload_n 0, 1)) ddL_law_3 10 rfl
theorem dL_law_311 : decode cL_law 311 = .ok (.iload_n 3, 1) := dck_at (q := (311, .iload_n 3, 1)) ddL_law_3 11 rfl
theorem dL_law_312 : decode cL_law 312 = .ok (.iconst 4, 1) := dck_at (q := (312, .iconst 4, 1)) ddL_law_3 12 rfl
theorem dL_law_313 : decode cL_law 313 = .ok (.iadd, 1) := dck_at (q := (313, .iadd, 1)) ddL_law_3 13 rfl
theorem dL_law_314 : decode cL_law 314 = .ok (.iaload, 1) := dck_at (q := (314, .iaload, 1)) ddL_law_3 14 rfl
theorem dL_law_315 : decode cL_law 315 = .ok (.ifCond .eq 7, 3) := dck_at (q := (315, .ifCond .eq 7, 3)) ddL_law_3 15 rfl
theorem dL_law_318 : decode cL_law 318 = .ok (.iconst 1, 1) := dck_at (q := (318, .iconst 1, 1)) ddL_law_3 16 rfl
theorem dL_law_319 : decode cL_law 319 = .ok (.goto 4, 3) := dck_at (q := (319, .goto 4, 3)) ddL_law_3 17 rfl
theorem dL_law_322 : decode cL_law 322 = .ok (.iconst 0, 1) := dck_at (q := (322, .iconst 0, 1)) ddL_law_3 18 rfl
theorem dL_law_323 : decode cL_law 323 = .ok (.invokevirtual 35, 3) := dck_at (q := (323, .invokevirtual 35, 3)) ddL_law_3 19 rfl
theorem dL_law_326 : decode cL_law 326 = .ok (.aload_n 2, 1) := dck_at (q := (326, .aload_n 2, 1)) ddL_law_3 20 rfl
theorem dL_law_327 : decode cL_law 327 = .ok (.aload_n 0, 1) := dck_at (q := (327, .aload_n 0, 1)) ddL_law_3 21 rfl
theorem dL_law_328 : decode cL_law 328 = .ok (.iload_n 3, 1) := dck_at (q := (328, .iload_n 3, 1)) ddL_law_3 22 rfl
theorem dL_law_329 : decode cL_law 329 = .ok (.iconst 1, 1) := dck_at (q := (329, .iconst 1, 1)) ddL_law_3 23 rfl
theorem dL_law_330 : decode cL_law 330 = .ok (.iadd, 1) := dck_at (q := (330, .iadd, 1)) ddL_law_3 24 rfl
theorem dL_law_331 : decode cL_law 331 = .ok (.iaload, 1) := dck_at (q := (331, .iaload, 1)) ddL_law_3 25 rfl
theorem dL_law_332 : decode cL_law 332 = .ok (.aload_n 0, 1) := dck_at (q := (332, .aload_n 0, 1)) ddL_law_3 26 rfl
theorem dL_law_333 : decode cL_law 333 = .ok (.iload_n 3, 1) := dck_at (q := (333, .iload_n 3, 1)) ddL_law_3 27 rfl
theorem dL_law_334 : decode cL_law 334 = .ok (.iconst 2, 1) := dck_at (q := (334, .iconst 2, 1)) ddL_law_3 28 rfl
theorem dL_law_335 : decode cL_law 335 = .ok (.iadd, 1) := dck_at (q := (335, .iadd, 1)) ddL_law_3 29 rfl
theorem dL_law_336 : decode cL_law 336 = .ok (.iaload, 1) := dck_at (q := (336, .iaload, 1)) ddL_law_3 30 rfl
theorem dL_law_337 : decode cL_law 337 = .ok (.aload_n 0, 1) := dck_at (q := (337, .aload_n 0, 1)) ddL_law_3 31 rfl
theorem dL_law_338 : decode cL_law 338 = .ok (.iload_n 3, 1) := dck_at (q := (338, .iload_n 3, 1)) ddL_law_3 32 rfl
theorem dL_law_339 : decode cL_law 339 = .ok (.iconst 3, 1) := dck_at (q := (339, .iconst 3, 1)) ddL_law_3 33 rfl
theorem dL_law_340 : decode cL_law 340 = .ok (.iadd, 1) := dck_at (q := (340, .iadd, 1)) ddL_law_3 34 rfl
theorem dL_law_341 : decode cL_law 341 = .ok (.iaload, 1) := dck_at (q := (341, .iaload, 1)) ddL_law_3 35 rfl
theorem dL_law_342 : decode cL_law 342 = .ok (.aload_n 0, 1) := dck_at (q := (342, .aload_n 0, 1)) ddL_law_3 36 rfl
theorem dL_law_343 : decode cL_law 343 = .ok (.iload_n 3, 1) := dck_at (q := (343, .iload_n 3, 1)) ddL_law_3 37 rfl
theorem dL_law_344 : decode cL_law 344 = .ok (.iconst 4, 1) := dck_at (q := (344, .iconst 4, 1)) ddL_law_3 38 rfl
theorem dL_law_345 : decode cL_law 345 = .ok (.iadd, 1) := dck_at (q := (345, .iadd, 1)) ddL_law_3 39 rfl
theorem dL_law_346 : decode cL_law 346 = .ok (.iaload, 1) := dck_at (q := (346, .iaload, 1)) ddL_law_3 40 rfl
theorem dL_law_347 : decode cL_law 347 = .ok (.ifCond .eq 7, 3) := dck_at (q := (347, .ifCond .eq 7, 3)) ddL_law_3 41 rfl
theorem dL_law_350 : decode cL_law 350 = .ok (.iconst 1, 1) := dck_at (q := (350, .iconst 1, 1)) ddL_law_3 42 rfl
theorem dL_law_351 : decode cL_law 351 = .ok (.goto 4, 3) := dck_at (q := (351, .goto 4, 3)) ddL_law_3 43 rfl
theorem dL_law_354 : decode cL_law 354 = .ok (.iconst 0, 1) := dck_at (q := (354, .iconst 0, 1)) ddL_law_3 44 rfl
theorem dL_law_355 : decode cL_law 355 = .ok (.invokevirtual 39, 3) := dck_at (q := (355, .invokevirtual 39, 3)) ddL_law_3 45 rfl
theorem dL_law_358 : decode cL_law 358 = .ok (.if_icmp .eq 269, 3) := dck_at (q := (358, .if_icmp .eq 269, 3)) ddL_law_3 46 rfl
theorem dL_law_361 : decode cL_law 361 = .ok (.iconst 0, 1) := dck_at (q := (361, .iconst 0, 1)) ddL_law_3 47 rfl
theorem dL_law_362 : decode cL_law 362 = .ok (.ireturn, 1) := dck_at (q := (362, .ireturn, 1)) ddL_law_3 48 rfl
theorem dL_law_363 : decode cL_law 363 = .ok (.aload_n 1, 1) := dck_at (q := (363, .aload_n 1, 1)) ddL_law_3 49 rfl
theorem dL_law_364 : decode cL_law 364 = .ok (.aload_n 0, 1) := dck_at (q := (364, .aload_n 0, 1)) ddL_law_3 50 rfl
theorem dL_law_365 : decode cL_law 365 = .ok (.iload_n 3, 1) := dck_at (q := (365, .iload_n 3, 1)) ddL_law_3 51 rfl
theorem dL_law_366 : decode cL_law 366 = .ok (.iconst 1, 1) := dck_at (q := (366, .iconst 1, 1)) ddL_law_3 52 rfl
theorem dL_law_367 : decode cL_law 367 = .ok (.iadd, 1) := dck_at (q := (367, .iadd, 1)) ddL_law_3 53 rfl
theorem dL_law_368 : decode cL_law 368 = .ok (.iaload, 1) := dck_at (q := (368, .iaload, 1)) ddL_law_3 54 rfl
theorem dL_law_369 : decode cL_law 369 = .ok (.invokevirtual 40, 3) := dck_at (q := (369, .invokevirtual 40, 3)) ddL_law_3 55 rfl
theorem dL_law_372 : decode cL_law 372 = .ok (.aload_n 2, 1) := dck_at (q := (372, .aload_n 2, 1)) ddL_law_3 56 rfl
theorem dL_law_373 : decode cL_law 373 = .ok (.aload_n 0, 1) := dck_at (q := (373, .aload_n 0, 1)) ddL_law_3 57 rfl
theorem dL_law_374 : decode cL_law 374 = .ok (.iload_n 3, 1) := dck_at (q := (374, .iload_n 3, 1)) ddL_law_3 58 rfl
theorem dL_law_375 : decode cL_law 375 = .ok (.iconst 1, 1) := dck_at (q := (375, .iconst 1, 1)) ddL_law_3 59 rfl
abbrev llL_law_4 : List (Nat × Instr × Nat) := [(376, .iadd, 1), (377, .iaload, 1), (378, .invokevirtual 44, 3), (381, .if_icmp .eq 246, 3), (384, .iconst 0, 1), (385, .ireturn, 1), (386, .aload_n 1, 1), (387, .aload_n 0, 1), (388, .iload_n 3, 1), (389, .iconst 1, 1), (390, .iadd, 1), (391, .iaload, 1), (392, .invokevirtual 45, 3), (395, .aload_n 2, 1), (396, .aload_n 0, 1), (397, .iload_n 3, 1), (398, .iconst 1, 1), (399, .iadd, 1), (400, .iaload, 1), (401, .invokevirtual 48, 3), (404, .if_icmp .eq 223, 3), (407, .iconst 0, 1), (408, .ireturn, 1), (409, .aload_n 1, 1), (410, .aload_n 0, 1), (411, .iload_n 3, 1), (412, .iconst 1, 1), (413, .iadd, 1), (414, .iaload, 1), (415, .invokevirtual 49, 3), (418, .aload_n 2, 1), (419, .aload_n 0, 1), (420, .iload_n 3, 1), (421, .iconst 1, 1), (422, .iadd, 1), (423, .iaload, 1), (424, .invokevirtual 52, 3), (427, .if_icmp .eq 200, 3), (430, .iconst 0, 1), (431, .ireturn, 1), (432, .aload_n 1, 1), (433, .invokevirtual 53, 3), (436, .aload_n 2, 1), (437, .invokevirtual 56, 3), (440, .if_icmp .eq 187, 3), (443, .iconst 0, 1), (444, .ireturn, 1), (445, .aload_n 1, 1), (446, .aload_n 0, 1), (447, .iload_n 3, 1), (448, .iconst 1, 1), (449, .iadd, 1), (450, .iaload, 1), (451, .invokevirtual 57, 3), (454, .aload_n 2, 1), (455, .aload_n 0, 1), (456, .iload_n 3, 1), (457, .iconst 1, 1), (458, .iadd, 1), (459, .iaload, 1)]
theorem ddL_law_4 : dck cL_law llL_law_4 = true := by decide +kernel
theorem dL_law_376 : decode cL_law 376 = .ok (.iadd, 1) := dck_at (q := (376, .iadd, 1)) ddL_law_4 0 rfl
theorem dL_law_377 : decode cL_law 377 = .ok (.iaload, 1) := dck_at (q := (377, .iaload, 1)) ddL_law_4 1 rfl
theorem dL_law_378 : decode cL_law 378 = .ok (.invokevirtual 44, 3) := dck_at (q := (378, .invokevirtual 44, 3)) ddL_law_4 2 rfl
theorem dL_law_381 : decode cL_law 381 = .ok (.if_icmp .eq 246, 3) := dck_at (q := (381, .if_icmp .eq 246, 3)) ddL_law_4 3 rfl
theorem dL_law_384 : decode cL_law 384 = .ok (.iconst 0, 1) := dck_at (q := (384, .iconst 0, 1)) ddL_law_4 4 rfl
theorem dL_law_385 : decode cL_law 385 = .ok (.ireturn, 1) := dck_at (q := (385, .ireturn, 1)) ddL_law_4 5 rfl
theorem dL_law_386 : decode cL_law 386 = .ok (.aload_n 1, 1) := dck_at (q := (386, .aload_n 1, 1)) ddL_law_4 6 rfl
theorem dL_law_387 : decode cL_law 387 = .ok (.aload_n 0, 1) := dck_at (q := (387, .aload_n 0, 1)) ddL_law_4 7 rfl
theorem dL_law_388 : decode cL_law 388 = .ok (.iload_n 3, 1) := dck_at (q := (388, .iload_n 3, 1)) ddL_law_4 8 rfl
theorem dL_law_389 : decode cL_law 389 = .ok (.iconst 1, 1) := dck_at (q := (389, .iconst 1, 1)) ddL_law_4 9 rfl
theorem dL_law_390 : decode cL_law 390 = .ok (.iadd, 1) := dck_at (q := (390, .iadd, 1)) ddL_law_4 10 rfl
theorem dL_law_391 : decode cL_law 391 = .ok (.iaload, 1) := dck_at (q := (391, .iaload, 1)) ddL_law_4 11 rfl
theorem dL_law_392 : decode cL_law 392 = .ok (.invokevirtual 45, 3) := dck_at (q := (392, .invokevirtual 45, 3)) ddL_law_4 12 rfl
theorem dL_law_395 : decode cL_law 395 = .ok (.aload_n 2, 1) := dck_at (q := (395, .aload_n 2, 1)) ddL_law_4 13 rfl
theorem dL_law_396 : decode cL_law 396 = .ok (.aload_n 0, 1) := dck_at (q := (396, .aload_n 0, 1)) ddL_law_4 14 rfl
theorem dL_law_397 : decode cL_law 397 = .ok (.iload_n 3, 1) := dck_at (q := (397, .iload_n 3, 1)) ddL_law_4 15 rfl
theorem dL_law_398 : decode cL_law 398 = .ok (.iconst 1, 1) := dck_at (q := (398, .iconst 1, 1)) ddL_law_4 16 rfl
theorem dL_law_399 : decode cL_law 399 = .ok (.iadd, 1) := dck_at (q := (399, .iadd, 1)) ddL_law_4 17 rfl
theorem dL_law_400 : decode cL_law 400 = .ok (.iaload, 1) := dck_at (q := (400, .iaload, 1)) ddL_law_4 18 rfl
theorem dL_law_401 : decode cL_law 401 = .ok (.invokevirtual 48, 3) := dck_at (q := (401, .invokevirtual 48, 3)) ddL_law_4 19 rfl
theorem dL_law_404 : decode cL_law 404 = .ok (.if_icmp .eq 223, 3) := dck_at (q := (404, .if_icmp .eq 223, 3)) ddL_law_4 20 rfl
theorem dL_law_407 : decode cL_law 407 = .ok (.iconst 0, 1) := dck_at (q := (407, .iconst 0, 1)) ddL_law_4 21 rfl
theorem dL_law_408 : decode cL_law 408 = .ok (.ireturn, 1) := dck_at (q := (408, .ireturn, 1)) ddL_law_4 22 rfl
theorem dL_law_409 : decode cL_law 409 = .ok (.aload_n 1, 1) := dck_at (q := (409, .aload_n 1, 1)) ddL_law_4 23 rfl
theorem dL_law_410 : decode cL_law 410 = .ok (.aload_n 0, 1) := dck_at (q := (410, .aload_n 0, 1)) ddL_law_4 24 rfl
theorem dL_law_411 : decode cL_law 411 = .ok (.iload_n 3, 1) := dck_at (q := (411, .iload_n 3, 1)) ddL_law_4 25 rfl
theorem dL_law_412 : decode cL_law 412 = .ok (.iconst 1, 1) := dck_at (q := (412, .iconst 1, 1)) ddL_law_4 26 rfl
theorem dL_law_413 : decode cL_law 413 = .ok (.iadd, 1) := dck_at (q := (413, .iadd, 1)) ddL_law_4 27 rfl
theorem dL_law_414 : decode cL_law 414 = .ok (.iaload, 1) := dck_at (q := (414, .iaload, 1)) ddL_law_4 28 rfl
theorem dL_law_415 : decode cL_law 415 = .ok (.invokevirtual 49, 3) := dck_at (q := (415, .invokevirtual 49, 3)) ddL_law_4 29 rfl
theorem dL_law_418 : decode cL_law 418 = .ok (.aload_n 2, 1) := dck_at (q := (418, .aload_n 2, 1)) ddL_law_4 30 rfl
theorem dL_law_419 : decode cL_law 419 = .ok (.aload_n 0, 1) := dck_at (q := (419, .aload_n 0, 1)) ddL_law_4 31 rfl
theorem dL_law_420 : decode cL_law 420 = .ok (.iload_n 3, 1) := dck_at (q := (420, .iload_n 3, 1)) ddL_law_4 32 rfl
theorem dL_law_421 : decode cL_law 421 = .ok (.iconst 1, 1) := dck_at (q := (421, .iconst 1, 1)) ddL_law_4 33 rfl
theorem dL_law_422 : decode cL_law 422 = .ok (.iadd, 1) := dck_at (q := (422, .iadd, 1)) ddL_law_4 34 rfl
theorem dL_law_423 : decode cL_law 423 = .ok (.iaload, 1) := dck_at (q := (423, .iaload, 1)) ddL_law_4 35 rfl
theorem dL_law_424 : decode cL_law 424 = .ok (.invokevirtual 52, 3) := dck_at (q := (424, .invokevirtual 52, 3)) ddL_law_4 36 rfl
theorem dL_law_427 : decode cL_law 427 = .ok (.if_icmp .eq 200, 3) := dck_at (q := (427, .if_icmp .eq 200, 3)) ddL_law_4 37 rfl
theorem dL_law_430 : decode cL_law 430 = .ok (.iconst 0, 1) := dck_at (q := (430, .iconst 0, 1)) ddL_law_4 38 rfl
theorem dL_law_431 : decode cL_law 431 = .ok (.ireturn, 1) := dck_at (q := (431, .ireturn, 1)) ddL_law_4 39 rfl
theorem dL_law_432 : decode cL_law 432 = .ok (.aload_n 1, 1) := dck_at (q := (432, .aload_n 1, 1)) ddL_law_4 40 rfl
theorem dL_law_433 : decode cL_law 433 = .ok (.invokevirtual 53, 3) := dck_at (q := (433, .invokevirtual 53, 3)) ddL_law_4 41 rfl
theorem dL_law_436 : decode cL_law 436 = .ok (.aload_n 2, 1) := dck_at (q := (436, .aload_n 2, 1)) ddL_law_4 42 rfl
theorem dL_law_437 : decode cL_law 437 = .ok (.invokevirtual 56, 3) := dck_at (q := (437, .invokevirtual 56, 3)) ddL_law_4 43 rfl
theorem dL_law_440 : decode cL_law 440 = .ok (.if_icmp .eq 187, 3) := dck_at (q := (440, .if_icmp .eq 187, 3)) ddL_law_4 44 rfl
theorem dL_law_443 : decode cL_law 443 = .ok (.iconst 0, 1) := dck_at (q := (443, .iconst 0, 1)) ddL_law_4 45 rfl
theorem dL_law_444 : decode cL_law 444 = .ok (.ireturn, 1) := dck_at (q := (444, .ireturn, 1)) ddL_law_4 46 rfl
theorem dL_law_445 : decode cL_law 445 = .ok (.aload_n 1, 1) := dck_at (q := (445, .aload_n 1, 1)) ddL_law_4 47 rfl
theorem dL_law_446 : decode cL_law 446 = .ok (.aload_n 0, 1) := dck_at (q := (446, .aload_n 0, 1)) ddL_law_4 48 rfl
theorem dL_law_447 : decode cL_law 447 = .ok (.iload_n 3, 1) := dck_at (q := (447, .iload_n 3, 1)) ddL_law_4 49 rfl
theorem dL_law_448 : decode cL_law 448 = .ok (.iconst 1, 1) := dck_at (q := (448, .iconst 1, 1)) ddL_law_4 50 rfl
theorem dL_law_449 : decode cL_law 449 = .ok (.iadd, 1) := dck_at (q := (449, .iadd, 1)) ddL_law_4 51 rfl
theorem dL_law_450 : decode cL_law 450 = .ok (.iaload, 1) := dck_at (q := (450, .iaload, 1)) ddL_law_4 52 rfl
theorem dL_law_451 : decode cL_law 451 = .ok (.invokevirtual 57, 3) := dck_at (q := (451, .invokevirtual 57, 3)) ddL_law_4 53 rfl
theorem dL_law_454 : decode cL_law 454 = .ok (.aload_n 2, 1) := dck_at (q := (454, .aload_n 2, 1)) ddL_law_4 54 rfl
theorem dL_law_455 : decode cL_law 455 = .ok (.aload_n 0, 1) := dck_at (q := (455, .aload_n 0, 1)) ddL_law_4 55 rfl
theorem dL_law_456 : decode cL_law 456 = .ok (.iload_n 3, 1) := dck_at (q := (456, .iload_n 3, 1)) ddL_law_4 56 rfl
theorem dL_law_457 : decode cL_law 457 = .ok (.iconst 1, 1) := dck_at (q := (457, .iconst 1, 1)) ddL_law_4 57 rfl
theorem dL_law_458 : decode cL_law 458 = .ok (.iadd, 1) := dck_at (q := (458, .iadd, 1)) ddL_law_4 58 rfl
theorem dL_law_459 : decode cL_law 459 = .ok (.iaload, 1) := dck_at (q := (459, .iaload, 1)) ddL_law_4 59 rfl
abbrev llL_law_5 : List (Nat × Instr × Nat) := [(460, .invokevirtual 60, 3), (463, .if_icmp .eq 164, 3), (466, .iconst 0, 1), (467, .ireturn, 1), (468, .aload_n 1, 1), (469, .aload_n 0, 1), (470, .iload_n 3, 1), (471, .iconst 1, 1), (472, .iadd, 1), (473, .iaload, 1), (474, .invokevirtual 61, 3), (477, .aload_n 2, 1), (478, .aload_n 0, 1), (479, .iload_n 3, 1), (480, .iconst 1, 1), (481, .iadd, 1), (482, .iaload, 1), (483, .invokevirtual 64, 3), (486, .if_icmp .eq 141, 3), (489, .iconst 0, 1), (490, .ireturn, 1), (491, .aload_n 1, 1), (492, .aload_n 0, 1), (493, .iload_n 3, 1), (494, .iconst 1, 1), (495, .iadd, 1), (496, .iaload, 1), (497, .invokevirtual 65, 3), (500, .aload_n 2, 1), (501, .aload_n 0, 1), (502, .iload_n 3, 1), (503, .iconst 1, 1), (504, .iadd, 1), (505, .iaload, 1), (506, .invokevirtual 69, 3), (509, .lcmp, 1), (510, .ifCond .eq 117, 3), (513, .iconst 0, 1), (514, .ireturn, 1), (515, .aload_n 1, 1), (516, .aload_n 0, 1), (517, .iload_n 3, 1), (518, .iconst 1, 1), (519, .iadd, 1), (520, .iaload, 1), (521, .aload_n 0, 1), (522, .iload_n 3, 1), (523, .iconst 2, 1), (524, .iadd, 1), (525, .iaload, 1), (526, .invokevirtual 70, 3), (529, .aload_n 2, 1), (530, .aload_n 0, 1), (531, .iload_n 3, 1), (532, .iconst 1, 1), (533, .iadd, 1), (534, .iaload, 1), (535, .aload_n 0, 1), (536, .iload_n 3, 1), (537, .iconst 2, 1)]
theorem ddL_law_5 : dck cL_law llL_law_5 = true := by decide +kernel
theorem dL_law_460 : decode cL_law 460 = .ok (.invokevirtual 60, 3) := dck_at (q := (460, .invokevirtual 60, 3)) ddL_law_5 0 rfl
theorem dL_law_463 : decode cL_law 463 = .ok (.if_icmp .eq 164, 3) := dck_at (q := (463, .if_icmp .eq 164, 3)) ddL_law_5 1 rfl
theorem dL_law_466 : decode cL_law 466 = .ok (.iconst 0, 1) := dck_at (q := (466, .iconst 0, 1)) ddL_law_5 2 rfl
theorem dL_law_467 : decode cL_law 467 = .ok (.ireturn, 1) := dck_at (q := (467, .ireturn, 1)) ddL_law_5 3 rfl
theorem dL_law_468 : decode cL_law 468 = .ok (.aload_n 1, 1) := dck_at (q := (468, .aload_n 1, 1)) ddL_law_5 4 rfl
theorem dL_law_469 : decode cL_law 469 = .ok (.aload_n 0, 1) := dck_at (q := (469, .aload_n 0, 1)) ddL_law_5 5 rfl
theorem dL_law_470 : decode cL_law 470 = .ok (.iload_n 3, 1) := dck_at (q := (470, .iload_n 3, 1)) ddL_law_5 6 rfl
theorem dL_law_471 : decode cL_law 471 = .ok (.iconst 1, 1) := dck_at (q := (471, .iconst 1, 1)) ddL_law_5 7 rfl
theorem dL_law_472 : decode cL_law 472 = .ok (.iadd, 1) := dck_at (q := (472, .iadd, 1)) ddL_law_5 8 rfl
theorem dL_law_473 : decode cL_law 473 = .ok (.iaload, 1) := dck_at (q := (473, .iaload, 1)) ddL_law_5 9 rfl
theorem dL_law_474 : decode cL_law 474 = .ok (.invokevirtual 61, 3) := dck_at (q := (474, .invokevirtual 61, 3)) ddL_law_5 10 rfl
theorem dL_law_477 : decode cL_law 477 = .ok (.aload_n 2, 1) := dck_at (q := (477, .aload_n 2, 1)) ddL_law_5 11 rfl
theorem dL_law_478 : decode cL_law 478 = .ok (.aload_n 0, 1) := dck_at (q := (478, .aload_n 0, 1)) ddL_law_5 12 rfl
theorem dL_law_479 : decode cL_law 479 = .ok (.iload_n 3, 1) := dck_at (q := (479, .iload_n 3, 1)) ddL_law_5 13 rfl
theorem dL_law_480 : decode cL_law 480 = .ok (.iconst 1, 1) := dck_at (q := (480, .iconst 1, 1)) ddL_law_5 14 rfl
theorem dL_law_481 : decode cL_law 481 = .ok (.iadd, 1) := dck_at (q := (481, .iadd, 1)) ddL_law_5 15 rfl
theorem dL_law_482 : decode cL_law 482 = .ok (.iaload, 1) := dck_at (q := (482, .iaload, 1)) ddL_law_5 16 rfl
theorem dL_law_483 : decode cL_law 483 = .ok (.invokevirtual 64, 3) := dck_at (q := (483, .invokevirtual 64, 3)) ddL_law_5 17 rfl
theorem dL_law_486 : decode cL_law 486 = .ok (.if_icmp .eq 141, 3) := dck_at (q := (486, .if_icmp .eq 141, 3)) ddL_law_5 18 rfl
theorem dL_law_489 : decode cL_law 489 = .ok (.iconst 0, 1) := dck_at (q := (489, .iconst 0, 1)) ddL_law_5 19 rfl
theorem dL_law_490 : decode cL_law 490 = .ok (.ireturn, 1) := dck_at (q := (490, .ireturn, 1)) ddL_law_5 20 rfl
theorem dL_law_491 : decode cL_law 491 = .ok (.aload_n 1, 1) := dck_at (q := (491, .aload_n 1, 1)) ddL_law_5 21 rfl
theorem dL_law_492 : decode cL_law 492 = .ok (.aload_n 0, 1) := dck_at (q := (492, .aload_n 0, 1)) ddL_law_5 22 rfl
theorem dL_law_493 : decode cL_law 493 = .ok (.iload_n 3, 1) := dck_at (q := (493, .iload_n 3, 1)) ddL_law_5 23 rfl
theorem dL_law_494 : decode cL_law 494 = .ok (.iconst 1, 1) := dck_at (q := (494, .iconst 1, 1)) ddL_law_5 24 rfl
theorem dL_law_495 : decode cL_law 495 = .ok (.iadd, 1) := dck_at (q := (495, .iadd, 1)) ddL_law_5 25 rfl
theorem dL_law_496 : decode cL_law 496 = .ok (.iaload, 1) := dck_at (q := (496, .iaload, 1)) ddL_law_5 26 rfl
theorem dL_law_497 : decode cL_law 497 = .ok (.invokevirtual 65, 3) := dck_at (q := (497, .invokevirtual 65, 3)) ddL_law_5 27 rfl
theorem dL_law_500 : decode cL_law 500 = .ok (.aload_n 2, 1) := dck_at (q := (500, .aload_n 2, 1)) ddL_law_5 28 rfl
theorem dL_law_501 : decode cL_law 501 = .ok (.aload_n 0, 1) := dck_at (q := (501, .aload_n 0, 1)) ddL_law_5 29 rfl
theorem dL_law_502 : decode cL_law 502 = .ok (.iload_n 3, 1) := dck_at (q := (502, .iload_n 3, 1)) ddL_law_5 30 rfl
theorem dL_law_503 : decode cL_law 503 = .ok (.iconst 1, 1) := dck_at (q := (503, .iconst 1, 1)) ddL_law_5 31 rfl
theorem dL_law_504 : decode cL_law 504 = .ok (.iadd, 1) := dck_at (q := (504, .iadd, 1)) ddL_law_5 32 rfl
theorem dL_law_505 : decode cL_law 505 = .ok (.iaload, 1) := dck_at (q := (505, .iaload, 1)) ddL_law_5 33 rfl
theorem dL_law_506 : decode cL_law 506 = .ok (.invokevirtual 69, 3) := dck_at (q := (506, .invokevirtual 69, 3)) ddL_law_5 34 rfl
theorem dL_law_509 : decode cL_law 509 = .ok (.lcmp, 1) := dck_at (q := (509, .lcmp, 1)) ddL_law_5 35 rfl
theorem dL_law_510 : decode cL_law 510 = .ok (.ifCond .eq 117, 3) := dck_at (q := (510, .ifCond .eq 117, 3)) ddL_law_5 36 rfl
theorem dL_law_513 : decode cL_law 513 = .ok (.iconst 0, 1) := dck_at (q := (513, .iconst 0, 1)) ddL_law_5 37 rfl
theorem dL_law_514 : decode cL_law 514 = .ok (.ireturn, 1) := dck_at (q := (514, .ireturn, 1)) ddL_law_5 38 rfl
theorem dL_law_515 : decode cL_law 515 = .ok (.aload_n 1, 1) := dck_at (q := (515, .aload_n 1, 1)) ddL_law_5 39 rfl
theorem dL_law_516 : decode cL_law 516 = .ok (.aload_n 0, 1) := dck_at (q := (516, .aload_n 0, 1)) ddL_law_5 40 rfl
theorem dL_law_517 : decode cL_law 517 = .ok (.iload_n 3, 1) := dck_at (q := (517, .iload_n 3, 1)) ddL_law_5 41 rfl
theorem dL_law_518 : decode cL_law 518 = .ok (.iconst 1, 1) := dck_at (q := (518, .iconst 1, 1)) ddL_law_5 42 rfl
theorem dL_law_519 : decode cL_law 519 = .ok (.iadd, 1) := dck_at (q := (519, .iadd, 1)) ddL_law_5 43 rfl
theorem dL_law_520 : decode cL_law 520 = .ok (.iaload, 1) := dck_at (q := (520, .iaload, 1)) ddL_law_5 44 rfl
theorem dL_law_521 : decode cL_law 521 = .ok (.aload_n 0, 1) := dck_at (q := (521, .aload_n 0, 1)) ddL_law_5 45 rfl
theorem dL_law_522 : decode cL_law 522 = .ok (.iload_n 3, 1) := dck_at (q := (522, .iload_n 3, 1)) ddL_law_5 46 rfl
theorem dL_law_523 : decode cL_law 523 = .ok (.iconst 2, 1) := dck_at (q := (523, .iconst 2, 1)) ddL_law_5 47 rfl
theorem dL_law_524 : decode cL_law 524 = .ok (.iadd, 1) := dck_at (q := (524, .iadd, 1)) ddL_law_5 48 rfl
theorem dL_law_525 : decode cL_law 525 = .ok (.iaload, 1) := dck_at (q := (525, .iaload, 1)) ddL_law_5 49 rfl
theorem dL_law_526 : decode cL_law 526 = .ok (.invokevirtual 70, 3) := dck_at (q := (526, .invokevirtual 70, 3)) ddL_law_5 50 rfl
theorem dL_law_529 : decode cL_law 529 = .ok (.aload_n 2, 1) := dck_at (q := (529, .aload_n 2, 1)) ddL_law_5 51 rfl
theorem dL_law_530 : decode cL_law 530 = .ok (.aload_n 0, 1) := dck_at (q := (530, .aload_n 0, 1)) ddL_law_5 52 rfl
theorem dL_law_531 : decode cL_law 531 = .ok (.iload_n 3, 1) := dck_at (q := (531, .iload_n 3, 1)) ddL_law_5 53 rfl
theorem dL_law_532 : decode cL_law 532 = .ok (.iconst 1, 1) := dck_at (q := (532, .iconst 1, 1)) ddL_law_5 54 rfl
theorem dL_law_533 : decode cL_law 533 = .ok (.iadd, 1) := dck_at (q := (533, .iadd, 1)) ddL_law_5 55 rfl
theorem dL_law_534 : decode cL_law 534 = .ok (.iaload, 1) := dck_at (q := (534, .iaload, 1)) ddL_law_5 56 rfl
theorem dL_law_535 : decode cL_law 535 = .ok (.aload_n 0, 1) := dck_at (q := (535, .aload_n 0, 1)) ddL_law_5 57 rfl
theorem dL_law_536 : decode cL_law 536 = .ok (.iload_n 3, 1) := dck_at (q := (536, .iload_n 3, 1)) ddL_law_5 58 rfl
theorem dL_law_537 : decode cL_law 537 = .ok (.iconst 2, 1) := dck_at (q := (537, .iconst 2, 1)) ddL_law_5 59 rfl
abbrev llL_law_6 : List (Nat × Instr × Nat) := [(538, .iadd, 1), (539, .iaload, 1), (540, .invokevirtual 74, 3), (543, .if_icmp .eq 84, 3), (546, .iconst 0, 1), (547, .ireturn, 1), (548, .aload_n 1, 1), (549, .aload_n 0, 1), (550, .iload_n 3, 1), (551, .iconst 1, 1), (552, .iadd, 1), (553, .iaload, 1), (554, .invokevirtual 75, 3), (557, .aload_n 2, 1), (558, .aload_n 0, 1), (559, .iload_n 3, 1), (560, .iconst 1, 1), (561, .iadd, 1), (562, .iaload, 1), (563, .invokevirtual 78, 3), (566, .if_icmp .eq 61, 3), (569, .iconst 0, 1), (570, .ireturn, 1), (571, .aload_n 1, 1), (572, .aload_n 0, 1), (573, .iload_n 3, 1), (574, .iconst 1, 1), (575, .iadd, 1), (576, .iaload, 1), (577, .aload_n 0, 1), (578, .iload_n 3, 1), (579, .iconst 2, 1), (580, .iadd, 1), (581, .iaload, 1), (582, .invokevirtual 79, 3), (585, .aload_n 2, 1), (586, .aload_n 0, 1), (587, .iload_n 3, 1), (588, .iconst 1, 1), (589, .iadd, 1), (590, .iaload, 1), (591, .aload_n 0, 1), (592, .iload_n 3, 1), (593, .iconst 2, 1), (594, .iadd, 1), (595, .iaload, 1), (596, .invokevirtual 83, 3), (599, .if_icmp .eq 28, 3), (602, .iconst 0, 1), (603, .ireturn, 1), (604, .aload_n 1, 1), (605, .aload_n 0, 1), (606, .iload_n 3, 1), (607, .iconst 1, 1), (608, .iadd, 1), (609, .iaload, 1), (610, .invokevirtual 84, 3), (613, .aload_n 2, 1), (614, .aload_n 0, 1), (615, .iload_n 3, 1)]
theorem ddL_law_6 : dck cL_law llL_law_6 = true := by decide +kernel
theorem dL_law_538 : decode cL_law 538 = .ok (.iadd, 1) := dck_at (q := (538, .iadd, 1)) ddL_law_6 0 rfl
theorem dL_law_539 : decode cL_law 539 = .ok (.iaload, 1) := dck_at (q := (539, .iaload, 1)) ddL_law_6 1 rfl
theorem dL_law_540 : decode cL_law 540 = .ok (.invokevirtual 74, 3) := dck_at (q := (540, .invokevirtual 74, 3)) ddL_law_6 2 rfl
theorem dL_law_543 : decode cL_law 543 = .ok (.if_icmp .eq 84, 3) := dck_at (q := (543, .if_icmp .eq 84, 3)) ddL_law_6 3 rfl
theorem dL_law_546 : decode cL_law 546 = .ok (.iconst 0, 1) := dck_at (q := (546, .iconst 0, 1)) ddL_law_6 4 rfl
theorem dL_law_547 : decode cL_law 547 = .ok (.ireturn, 1) := dck_at (q := (547, .ireturn, 1)) ddL_law_6 5 rfl
theorem dL_law_548 : decode cL_law 548 = .ok (.aload_n 1, 1) := dck_at (q := (548, .aload_n 1, 1)) ddL_law_6 6 rfl
theorem dL_law_549 : decode cL_law 549 = .ok (.aload_n 0, 1) := dck_at (q := (549, .aload_n 0, 1)) ddL_law_6 7 rfl
theorem dL_law_550 : decode cL_law 550 = .ok (.iload_n 3, 1) := dck_at (q := (550, .iload_n 3, 1)) ddL_law_6 8 rfl
theorem dL_law_551 : decode cL_law 551 = .ok (.iconst 1, 1) := dck_at (q := (551, .iconst 1, 1)) ddL_law_6 9 rfl
theorem dL_law_552 : decode cL_law 552 = .ok (.iadd, 1) := dck_at (q := (552, .iadd, 1)) ddL_law_6 10 rfl
theorem dL_law_553 : decode cL_law 553 = .ok (.iaload, 1) := dck_at (q := (553, .iaload, 1)) ddL_law_6 11 rfl
theorem dL_law_554 : decode cL_law 554 = .ok (.invokevirtual 75, 3) := dck_at (q := (554, .invokevirtual 75, 3)) ddL_law_6 12 rfl
theorem dL_law_557 : decode cL_law 557 = .ok (.aload_n 2, 1) := dck_at (q := (557, .aload_n 2, 1)) ddL_law_6 13 rfl
theorem dL_law_558 : decode cL_law 558 = .ok (.aload_n 0, 1) := dck_at (q := (558, .aload_n 0, 1)) ddL_law_6 14 rfl
theorem dL_law_559 : decode cL_law 559 = .ok (.iload_n 3, 1) := dck_at (q := (559, .iload_n 3, 1)) ddL_law_6 15 rfl
theorem dL_law_560 : decode cL_law 560 = .ok (.iconst 1, 1) := dck_at (q := (560, .iconst 1, 1)) ddL_law_6 16 rfl
theorem dL_law_561 : decode cL_law 561 = .ok (.iadd, 1) := dck_at (q := (561, .iadd, 1)) ddL_law_6 17 rfl
theorem dL_law_562 : decode cL_law 562 = .ok (.iaload, 1) := dck_at (q := (562, .iaload, 1)) ddL_law_6 18 rfl
theorem dL_law_563 : decode cL_law 563 = .ok (.invokevirtual 78, 3) := dck_at (q := (563, .invokevirtual 78, 3)) ddL_law_6 19 rfl
theorem dL_law_566 : decode cL_law 566 = .ok (.if_icmp .eq 61, 3) := dck_at (q := (566, .if_icmp .eq 61, 3)) ddL_law_6 20 rfl
theorem dL_law_569 : decode cL_law 569 = .ok (.iconst 0, 1) := dck_at (q := (569, .iconst 0, 1)) ddL_law_6 21 rfl
theorem dL_law_570 : decode cL_law 570 = .ok (.ireturn, 1) := dck_at (q := (570, .ireturn, 1)) ddL_law_6 22 rfl
theorem dL_law_571 : decode cL_law 571 = .ok (.aload_n 1, 1) := dck_at (q := (571, .aload_n 1, 1)) ddL_law_6 23 rfl
theorem dL_law_572 : decode cL_law 572 = .ok (.aload_n 0, 1) := dck_at (q := (572, .aload_n 0, 1)) ddL_law_6 24 rfl
theorem dL_law_573 : decode cL_law 573 = .ok (.iload_n 3, 1) := dck_at (q := (573, .iload_n 3, 1)) ddL_law_6 25 rfl
theorem dL_law_574 : decode cL_law 574 = .ok (.iconst 1, 1) := dck_at (q := (574, .iconst 1, 1)) ddL_law_6 26 rfl
theorem dL_law_575 : decode cL_law 575 = .ok (.iadd, 1) := dck_at (q := (575, .iadd, 1)) ddL_law_6 27 rfl
theorem dL_law_576 : decode cL_law 576 = .ok (.iaload, 1) := dck_at (q := (576, .iaload, 1)) ddL_law_6 28 rfl
theorem dL_law_577 : decode cL_law 577 = .ok (.aload_n 0, 1) := dck_at (q := (577, .aload_n 0, 1)) ddL_law_6 29 rfl
theorem dL_law_578 : decode cL_law 578 = .ok (.iload_n 3, 1) := dck_at (q := (578, .iload_n 3, 1)) ddL_law_6 30 rfl
theorem dL_law_579 : decode cL_law 579 = .ok (.iconst 2, 1) := dck_at (q := (579, .iconst 2, 1)) ddL_law_6 31 rfl
theorem dL_law_580 : decode cL_law 580 = .ok (.iadd, 1) := dck_at (q := (580, .iadd, 1)) ddL_law_6 32 rfl
theorem dL_law_581 : decode cL_law 581 = .ok (.iaload, 1) := dck_at (q := (581, .iaload, 1)) ddL_law_6 33 rfl
theorem dL_law_582 : decode cL_law 582 = .ok (.invokevirtual 79, 3) := dck_at (q := (582, .invokevirtual 79, 3)) ddL_law_6 34 rfl
theorem dL_law_585 : decode cL_law 585 = .ok (.aload_n 2, 1) := dck_at (q := (585, .aload_n 2, 1)) ddL_law_6 35 rfl
theorem dL_law_586 : decode cL_law 586 = .ok (.aload_n 0, 1) := dck_at (q := (586, .aload_n 0, 1)) ddL_law_6 36 rfl
theorem dL_law_587 : decode cL_law 587 = .ok (.iload_n 3, 1) := dck_at (q := (587, .iload_n 3, 1)) ddL_law_6 37 rfl
theorem dL_law_588 : decode cL_law 588 = .ok (.iconst 1, 1) := dck_at (q := (588, .iconst 1, 1)) ddL_law_6 38 rfl
theorem dL_law_589 : decode cL_law 589 = .ok (.iadd, 1) := dck_at (q := (589, .iadd, 1)) ddL_law_6 39 rfl
theorem dL_law_590 : decode cL_law 590 = .ok (.iaload, 1) := dck_at (q := (590, .iaload, 1)) ddL_law_6 40 rfl
theorem dL_law_591 : decode cL_law 591 = .ok (.aload_n 0, 1) := dck_at (q := (591, .aload_n 0, 1)) ddL_law_6 41 rfl
theorem dL_law_592 : decode cL_law 592 = .ok (.iload_n 3, 1) := dck_at (q := (592, .iload_n 3, 1)) ddL_law_6 42 rfl
theorem dL_law_593 : decode cL_law 593 = .ok (.iconst 2, 1) := dck_at (q := (593, .iconst 2, 1)) ddL_law_6 43 rfl
theorem dL_law_594 : decode cL_law 594 = .ok (.iadd, 1) := dck_at (q := (594, .iadd, 1)) ddL_law_6 44 rfl
theorem dL_law_595 : decode cL_law 595 = .ok (.iaload, 1) := dck_at (q := (595, .iaload, 1)) ddL_law_6 45 rfl
theorem dL_law_596 : decode cL_law 596 = .ok (.invokevirtual 83, 3) := dck_at (q := (596, .invokevirtual 83, 3)) ddL_law_6 46 rfl
theorem dL_law_599 : decode cL_law 599 = .ok (.if_icmp .eq 28, 3) := dck_at (q := (599, .if_icmp .eq 28, 3)) ddL_law_6 47 rfl
theorem dL_law_602 : decode cL_law 602 = .ok (.iconst 0, 1) := dck_at (q := (602, .iconst 0, 1)) ddL_law_6 48 rfl
theorem dL_law_603 : decode cL_law 603 = .ok (.ireturn, 1) := dck_at (q := (603, .ireturn, 1)) ddL_law_6 49 rfl
theorem dL_law_604 : decode cL_law 604 = .ok (.aload_n 1, 1) := dck_at (q := (604, .aload_n 1, 1)) ddL_law_6 50 rfl
theorem dL_law_605 : decode cL_law 605 = .ok (.aload_n 0, 1) := dck_at (q := (605, .aload_n 0, 1)) ddL_law_6 51 rfl
theorem dL_law_606 : decode cL_law 606 = .ok (.iload_n 3, 1) := dck_at (q := (606, .iload_n 3, 1)) ddL_law_6 52 rfl
theorem dL_law_607 : decode cL_law 607 = .ok (.iconst 1, 1) := dck_at (q := (607, .iconst 1, 1)) ddL_law_6 53 rfl
theorem dL_law_608 : decode cL_law 608 = .ok (.iadd, 1) := dck_at (q := (608, .iadd, 1)) ddL_law_6 54 rfl
theorem dL_law_609 : decode cL_law 609 = .ok (.iaload, 1) := dck_at (q := (609, .iaload, 1)) ddL_law_6 55 rfl
theorem dL_law_610 : decode cL_law 610 = .ok (.invokevirtual 84, 3) := dck_at (q := (610, .invokevirtual 84, 3)) ddL_law_6 56 rfl
theorem dL_law_613 : decode cL_law 613 = .ok (.aload_n 2, 1) := dck_at (q := (613, .aload_n 2, 1)) ddL_law_6 57 rfl
theorem dL_law_614 : decode cL_law 614 = .ok (.aload_n 0, 1) := dck_at (q := (614, .aload_n 0, 1)) ddL_law_6 58 rfl
theorem dL_law_615 : decode cL_law 615 = .ok (.iload_n 3, 1) := dck_at (q := (615, .iload_n 3, 1)) ddL_law_6 59 rfl
abbrev llL_law_7 : List (Nat × Instr × Nat) := [(616, .iconst 1, 1), (617, .iadd, 1), (618, .iaload, 1), (619, .invokevirtual 88, 3), (622, .if_icmp .eq 5, 3), (625, .iconst 0, 1), (626, .ireturn, 1), (627, .iinc 3 6, 3), (630, .goto (-612), 3), (633, .iconst 1, 1), (634, .ireturn, 1)]
theorem ddL_law_7 : dck cL_law llL_law_7 = true := by decide +kernel
theorem dL_law_616 : decode cL_law 616 = .ok (.iconst 1, 1) := dck_at (q := (616, .iconst 1, 1)) ddL_law_7 0 rfl
theorem dL_law_617 : decode cL_law 617 = .ok (.iadd, 1) := dck_at (q := (617, .iadd, 1)) ddL_law_7 1 rfl
theorem dL_law_618 : decode cL_law 618 = .ok (.iaload, 1) := dck_at (q := (618, .iaload, 1)) ddL_law_7 2 rfl
theorem dL_law_619 : decode cL_law 619 = .ok (.invokevirtual 88, 3) := dck_at (q := (619, .invokevirtual 88, 3)) ddL_law_7 3 rfl
theorem dL_law_622 : decode cL_law 622 = .ok (.if_icmp .eq 5, 3) := dck_at (q := (622, .if_icmp .eq 5, 3)) ddL_law_7 4 rfl
theorem dL_law_625 : decode cL_law 625 = .ok (.iconst 0, 1) := dck_at (q := (625, .iconst 0, 1)) ddL_law_7 5 rfl
theorem dL_law_626 : decode cL_law 626 = .ok (.ireturn, 1) := dck_at (q := (626, .ireturn, 1)) ddL_law_7 6 rfl
theorem dL_law_627 : decode cL_law 627 = .ok (.iinc 3 6, 3) := dck_at (q := (627, .iinc 3 6, 3)) ddL_law_7 7 rfl
theorem dL_law_630 : decode cL_law 630 = .ok (.goto (-612), 3) := dck_at (q := (630, .goto (-612), 3)) ddL_law_7 8 rfl
theorem dL_law_633 : decode cL_law 633 = .ok (.iconst 1, 1) := dck_at (q := (633, .iconst 1, 1)) ddL_law_7 9 rfl
theorem dL_law_634 : decode cL_law 634 = .ok (.ireturn, 1) := dck_at (q := (634, .ireturn, 1)) ddL_law_7 10 rfl
