set_option maxRecDepth 20000 in
theorem ggX8_addPart_X8_add : GoodIn wsX8_addPart wsX8_add := goodIn_r _ [11, 6, 12, 13, 14, 15, 16, 4, 17, 7, 18, 19, 20, 21] (by decide +kernel) (by decide +kernel)
set_option maxRecDepth 20000 in
theorem gX8_addPart_X8_add : GoodIn wsX8_addPart (wsV RX8 36 RX8 yX8_add wsX8_add) := goodIn_app (goodIn_of _ (by decide +kernel)) ggX8_addPart_X8_add
set_option maxRecDepth 20000 in
theorem ggX8_highFirst_X8_at : GoodIn wsX8_highFirst wsX8_at := goodIn_r _ [5, 6, 7, 8, 9, 10, 11] (by decide +kernel) (by decide +kernel)
set_option maxRecDepth 20000 in
theorem gX8_highFirst_X8_at : GoodIn wsX8_highFirst (wsV RX8 40 RX8 yX8_at wsX8_at) := goodIn_app (goodIn_of _ (by decide +kernel)) ggX8_highFirst_X8_at
set_option maxRecDepth 20000 in
theorem ggX8_lowFirst_X8_at : GoodIn wsX8_lowFirst wsX8_at := goodIn_r _ [5, 6, 7, 8, 9, 10, 11] (by decide +kernel) (by decide +kernel)
set_option maxRecDepth 20000 in
theorem gX8_lowFirst_X8_at : GoodIn wsX8_lowFirst (wsV RX8 40 RX8 yX8_at wsX8_at) := goodIn_app (goodIn_of _ (by decide +kernel)) ggX8_lowFirst_X8_at
set_option maxRecDepth 20000 in
theorem ggX9_init_X8_init : GoodIn wsX9_init wsX8_init := goodIn_r _ [35, 36, 2, 3, 37, 38, 39, 40, 41, 42, 43, 78, 79, 80, 81] (by decide +kernel) (by decide +kernel)
set_option maxRecDepth 20000 in
theorem gX9_init_X8_init : GoodIn wsX9_init (wsX8_init) := ggX9_init_X8_init
set_option maxRecDepth 20000 in
theorem ggX9_init_X4_init : GoodIn wsX9_init wsX4_init := goodIn_r _ [45, 46, 2, 3, 47, 5, 6, 48, 42, 49, 50, 51, 52, 34, 35, 36, 37, 38, 39, 40, 41, 43, 78, 79, 80, 81, 96, 97, 98, 99] (by decide +kernel) (by decide +kernel)
set_option maxRecDepth 20000 in
theorem gX9_init_X4_init_n26 : GoodIn wsX9_init (wsX4_init) := ggX9_init_X4_init
set_option maxRecDepth 20000 in
theorem ggX9_init_X7_init : GoodIn wsX9_init wsX7_init := goodIn_r _ [54, 55, 2, 3, 42, 56, 100, 101, 102, 103, 104, 105, 106, 107, 108, 109] (by decide +kernel) (by decide +kernel)
set_option maxRecDepth 20000 in
theorem gX9_init_X7_init_n36 : GoodIn wsX9_init (wsX7_init) := ggX9_init_X7_init
set_option maxRecDepth 20000 in
theorem ggX9_init_X6_init : GoodIn wsX9_init wsX6_init := goodIn_r _ [58, 59, 2, 3] (by decide +kernel) (by decide +kernel)
set_option maxRecDepth 20000 in
theorem gX9_init_X6_init_n43 : GoodIn wsX9_init (wsX6_init) := ggX9_init_X6_init
set_option maxRecDepth 20000 in
theorem ggX9_init_X2_init : GoodIn wsX9_init wsX2_init := goodIn_r _ [61, 62, 2, 3, 63, 5, 6, 64, 65, 34, 35, 36, 37, 38, 39, 40, 41, 42, 43, 78, 79, 80, 81, 120, 121, 122, 123, 124, 125] (by decide +kernel) (by decide +kernel)
set_option maxRecDepth 20000 in
theorem gX9_init_X2_init_n50 : GoodIn wsX9_init (wsX2_init) := ggX9_init_X2_init
set_option maxRecDepth 20000 in
theorem ggX9_init_X1_init : GoodIn wsX9_init wsX1_init := goodIn_r _ [68, 69, 2, 3, 42, 70, 71, 72, 73, 74, 75, 76, 77, 126, 127, 128, 129, 130, 131, 132, 133, 134, 135, 136, 137, 138, 139, 140, 141, 142, 143] (by decide +kernel) (by decide +kernel)
set_option maxRecDepth 20000 in
theorem gX9_init_X1_init : GoodIn wsX9_init (wsX1_init) := ggX9_init_X1_init
set_option maxRecDepth 20000 in
theorem ggX9_feed_X8_addHighFirst : GoodIn wsX9_feed wsX8_addHighFirst := goodIn_r _ [7, 8, 9, 10, 6, 11, 12, 13, 14, 15, 16, 17, 18, 19, 34, 35, 36, 37] (by decide +kernel) (by decide +kernel)
set_option maxRecDepth 20000 in
theorem gX9_feed_X8_addHighFirst : GoodIn wsX9_feed (wsV RX9 72 RX8 yX8_addHighFirst wsX8_addHighFirst) := goodIn_app (goodIn_of _ (by decide +kernel)) ggX9_feed_X8_addHighFirst
set_option maxRecDepth 20000 in
theorem ggX9_packet_X9_isOnTape : GoodIn wsX9_packet wsX9_isOnTape := goodIn_r _ [11, 5, 12, 52, 53, 54, 55, 56, 57, 58, 59, 60, 61, 62, 63, 64, 65, 70, 71, 72, 73] (by decide +kernel) (by decide +kernel)
set_option maxRecDepth 20000 in
theorem gX9_packet_X9_isOnTape : GoodIn wsX9_packet (wsV RX9 76 RX9 yX9_isOnTape wsX9_isOnTape) := goodIn_app (goodIn_of _ (by decide +kernel)) ggX9_packet_X9_isOnTape
set_option maxRecDepth 20000 in
theorem ggX9_packet_X4_hasRoom : GoodIn wsX9_packet wsX4_hasRoom := goodIn_r _ [17, 18, 19, 20, 66, 67, 68, 69, 70, 71, 72, 73] (by decide +kernel) (by decide +kernel)
set_option maxRecDepth 20000 in
theorem gX9_packet_X4_hasRoom : GoodIn wsX9_packet (wsV RX9 84 RX4 yX4_hasRoom wsX4_hasRoom) := goodIn_app (goodIn_of _ (by decide +kernel)) ggX9_packet_X4_hasRoom
set_option maxRecDepth 20000 in
theorem ggX9_packet_X8_addPart : GoodIn wsX9_packet wsX8_addPart := goodIn_r _ [25, 26, 27, 28, 24, 29, 30, 31, 32, 33, 34, 35, 36, 37, 38, 39, 40, 41, 70, 71, 72, 73] (by decide +kernel) (by decide +kernel)
set_option maxRecDepth 20000 in
theorem gX9_packet_X8_addPart : GoodIn wsX9_packet (wsV RX9 91 RX8 yX8_addPart wsX8_addPart) := goodIn_app (goodIn_of _ (by decide +kernel)) ggX9_packet_X8_addPart
set_option maxRecDepth 20000 in
theorem ggX9_packet_X4_endPacket : GoodIn wsX9_packet wsX4_endPacket := goodIn_r _ [45, 18, 46, 19, 20, 47, 66, 67, 68, 69, 70, 71, 72, 73] (by decide +kernel) (by decide +kernel)
set_option maxRecDepth 20000 in
theorem gX9_packet_X4_endPacket : GoodIn wsX9_packet (wsV RX9 95 RX4 yX4_endPacket wsX4_endPacket) := goodIn_app (goodIn_of _ (by decide +kernel)) ggX9_packet_X4_endPacket
set_option maxRecDepth 20000 in
theorem ggX9_packet_X8_empty : GoodIn wsX9_packet wsX8_empty := goodIn_r _ [51, 30, 37, 70, 71, 72, 73] (by decide +kernel) (by decide +kernel)
set_option maxRecDepth 20000 in
theorem gX9_packet_X8_empty : GoodIn wsX9_packet (wsV RX9 99 RX8 yX8_empty wsX8_empty) := goodIn_app (goodIn_of _ (by decide +kernel)) ggX9_packet_X8_empty
set_option maxRecDepth 20000 in
theorem ggX9_clear_X4_empty : GoodIn wsX9_clear wsX4_empty := goodIn_r _ [7, 8, 9, 10, 11, 12, 13, 14, 15, 16, 31, 32, 33, 34, 35, 36, 37, 38] (by decide +kernel) (by decide +kernel)
set_option maxRecDepth 20000 in
theorem gX9_clear_X4_empty : GoodIn wsX9_clear (wsV RX9 105 RX4 yX4_empty wsX4_empty) := goodIn_app (goodIn_of _ (by decide +kernel)) ggX9_clear_X4_empty
set_option maxRecDepth 20000 in
theorem ggX9_pages_X4_isInOrderOfTime : GoodIn wsX9_pages wsX4_isInOrderOfTime := goodIn_r _ [9, 10, 11, 12, 13, 14, 15, 16, 17, 18, 8, 19, 20, 21, 22, 23, 24, 140, 141, 142, 143] (by decide +kernel) (by decide +kernel)
set_option maxRecDepth 20000 in
theorem gX9_pages_X4_isInOrderOfTime : GoodIn wsX9_pages (wsV RX9 108 RX4 yX4_isInOrderOfTime wsX4_isInOrderOfTime) := goodIn_app (goodIn_of _ (by decide +kernel)) ggX9_pages_X4_isInOrderOfTime
set_option maxRecDepth 20000 in
theorem ggX9_pages_X8_empty : GoodIn wsX9_pages wsX8_empty := goodIn_r _ [29, 30, 31, 144, 145, 146, 147] (by decide +kernel) (by decide +kernel)
set_option maxRecDepth 20000 in
theorem gX9_pages_X8_empty : GoodIn wsX9_pages (wsV RX9 99 RX8 yX8_empty wsX8_empty) := goodIn_app (goodIn_of _ (by decide +kernel)) ggX9_pages_X8_empty
set_option maxRecDepth 20000 in
theorem ggX9_pages_X7_write : GoodIn wsX9_pages wsX7_write := goodIn_r _ [36, 37, 38, 39, 40, 41, 42, 43, 44, 45, 46, 47, 48, 49, 35, 50, 51, 52, 53, 8, 54, 55, 21, 22, 23, 24, 11, 56, 57, 58, 59, 60, 61, 62, 63, 64, 65, 66, 67, 68, 69, 70, 71, 72, 73, 74, 75, 76, 77, 78, 79, 28, 80, 81, 82, 83, 84, 30, 85, 31, 86, 87, 88, 89, 90, 91, 92, 93, 94, 95, 10, 16, 17, 18, 19, 20, 96, 97, 98, 99, 100, 101, 102, 103, 104, 105, 106, 107, 108, 109, 110, 111, 112, 113, 114, 115, 116, 117, 148, 149, 150, 151, 152, 153, 154, 155, 156, 157, 140, 141, 142, 143, 144, 145, 146, 147] (by decide +kernel) (by decide +kernel)
set_option maxRecDepth 20000 in
theorem gX9_pages_X7_write : GoodIn wsX9_pages (wsV RX9 112 RX7 yX7_write wsX7_write) := goodIn_app (goodIn_of _ (by decide +kernel)) ggX9_pages_X7_write
set_option maxRecDepth 20000 in
theorem ggX9_pages_X9_takeSpareRow : GoodIn wsX9_pages wsX9_takeSpareRow := goodIn_r _ [122, 3, 123, 124, 125, 126, 127, 128, 129, 130, 131, 132, 133, 134, 135, 136, 137, 138, 139, 144, 145, 146, 147] (by decide +kernel) (by decide +kernel)
set_option maxRecDepth 20000 in
theorem gX9_pages_X9_takeSpareRow : GoodIn wsX9_pages (wsV RX9 116 RX9 yX9_takeSpareRow wsX9_takeSpareRow) := goodIn_app (goodIn_of _ (by decide +kernel)) ggX9_pages_X9_takeSpareRow
set_option maxRecDepth 20000 in
theorem ggX9_elements_X8_empty : GoodIn wsX9_elements wsX8_empty := goodIn_r _ [8, 9, 10, 161, 162, 163, 164] (by decide +kernel) (by decide +kernel)
set_option maxRecDepth 20000 in
theorem gX9_elements_X8_empty : GoodIn wsX9_elements (wsV RX9 99 RX8 yX8_empty wsX8_empty) := goodIn_app (goodIn_of _ (by decide +kernel)) ggX9_elements_X8_empty
set_option maxRecDepth 20000 in
theorem ggX9_elements_X2_write : GoodIn wsX9_elements wsX2_write := goodIn_r _ [15, 16, 17, 18, 19, 20, 21, 22, 23, 24, 25, 26, 27, 28, 7, 29, 30, 31, 32, 33, 9, 34, 10, 35, 36, 37, 38, 39, 40, 41, 42, 14, 43, 44, 45, 46, 47, 48, 49, 50, 51, 52, 53, 54, 55, 56, 57, 58, 59, 60, 61, 62, 63, 64, 65, 66, 67, 68, 69, 70, 71, 72, 73, 74, 75, 76, 77, 78, 79, 80, 81, 82, 83, 84, 85, 86, 87, 88, 89, 90, 91, 92, 93, 94, 95, 96, 97, 98, 99, 100, 101, 102, 103, 104, 105, 106, 107, 108, 109, 110, 111, 112, 113, 114, 5, 6, 8, 115, 116, 117, 118, 119, 120, 121, 122, 123, 124, 125, 126, 127, 128, 129, 130, 131, 132, 133, 134, 135, 136, 137, 138, 165, 166, 167, 168, 169, 170, 161, 162, 163, 164, 171, 172, 173, 174] (by decide +kernel) (by decide +kernel)
set_option maxRecDepth 20000 in
theorem gX9_elements_X2_write : GoodIn wsX9_elements (wsV RX9 120 RX2 yX2_write wsX2_write) := goodIn_app (goodIn_of _ (by decide +kernel)) ggX9_elements_X2_write
set_option maxRecDepth 20000 in
theorem ggX9_elements_X9_takeSpareRow : GoodIn wsX9_elements wsX9_takeSpareRow := goodIn_r _ [143, 1, 144, 145, 146, 147, 148, 149, 150, 151, 152, 153, 154, 155, 156, 157, 158, 159, 160, 161, 162, 163, 164] (by decide +kernel) (by decide +kernel)
set_option maxRecDepth 20000 in
theorem gX9_elements_X9_takeSpareRow : GoodIn wsX9_elements (wsV RX9 116 RX9 yX9_takeSpareRow wsX9_takeSpareRow) := goodIn_app (goodIn_of _ (by decide +kernel)) ggX9_elements_X9_takeSpareRow
set_option maxRecDepth 20000 in
theorem ggX9_readPages_X9_isOnTape : GoodIn wsX9_readPages wsX9_isOnTape := goodIn_r _ [14, 3, 15, 134, 135, 136, 137, 138, 139, 140, 141, 142, 143, 144, 145, 146, 147, 158, 159, 160, 161] (by decide +kernel) (by decide +kernel)
set_option maxRecDepth 20000 in
theorem gX9_readPages_X9_isOnTape : GoodIn wsX9_readPages (wsV RX9 76 RX9 yX9_isOnTape wsX9_isOnTape) := goodIn_app (goodIn_of _ (by decide +kernel)) ggX9_readPages_X9_isOnTape
set_option maxRecDepth 20000 in
theorem ggX9_readPages_X4_empty : GoodIn wsX9_readPages wsX4_empty := goodIn_r _ [20, 21, 22, 23, 24, 25, 26, 27, 28, 29, 162, 163, 164, 165, 158, 159, 160, 161] (by decide +kernel) (by decide +kernel)
set_option maxRecDepth 20000 in
theorem gX9_readPages_X4_empty : GoodIn wsX9_readPages (wsV RX9 105 RX4 yX4_empty wsX4_empty) := goodIn_app (goodIn_of _ (by decide +kernel)) ggX9_readPages_X4_empty
set_option maxRecDepth 20000 in
theorem ggX9_readPages_X6_read : GoodIn wsX9_readPages wsX6_read := goodIn_r _ [34, 35, 36, 37, 38, 39, 40, 41, 42, 43, 44, 45, 46, 33, 47, 48, 49, 50, 51, 52, 53, 54, 55, 26, 56, 57, 58, 59, 60, 28, 61, 62, 63, 64, 65, 66, 67, 68, 69, 70, 71, 72, 73, 74, 75, 76, 77, 78, 79, 80, 81, 82, 83, 84, 85, 86, 87, 88, 89, 90, 91, 92, 93, 94, 95, 96, 19, 97, 21, 22, 98, 99, 100, 101, 102, 103, 104, 105, 106, 107, 108, 109, 110, 111, 112, 29, 113, 114, 115, 116, 117, 118, 119, 120, 121, 122, 123, 124, 125, 126, 148, 149, 150, 151, 152, 153, 154, 155, 156, 157, 158, 159, 160, 161, 162, 163, 164, 165] (by decide +kernel) (by decide +kernel)
set_option maxRecDepth 20000 in
theorem gX9_readPages_X6_read : GoodIn wsX9_readPages (wsV RX9 123 RX6 yX6_read wsX6_read) := goodIn_app (goodIn_of _ (by decide +kernel)) ggX9_readPages_X6_read
set_option maxRecDepth 20000 in
theorem ggX9_readPages_X9_takeSpareList : GoodIn wsX9_readPages wsX9_takeSpareList := goodIn_r _ [130, 3, 5, 131, 1, 132, 133, 24, 25, 26, 27, 28, 29, 134, 135, 136, 137, 138, 139, 140, 141, 142, 143, 144, 145, 146, 147, 162, 163, 164, 165, 158, 159, 160, 161] (by decide +kernel) (by decide +kernel)
set_option maxRecDepth 20000 in
theorem gX9_readPages_X9_takeSpareList : GoodIn wsX9_readPages (wsV RX9 137 RX9 yX9_takeSpareList wsX9_takeSpareList) := goodIn_app (goodIn_of _ (by decide +kernel)) ggX9_readPages_X9_takeSpareList
set_option maxRecDepth 20000 in
theorem ggX9_readElements_X9_isOnTape : GoodIn wsX9_readElements wsX9_isOnTape := goodIn_r _ [16, 3, 17, 247, 248, 249, 250, 251, 252, 253, 254, 255, 256, 257, 258, 259, 260, 274, 275, 276, 277] (by decide +kernel) (by decide +kernel)
set_option maxRecDepth 20000 in
theorem gX9_readElements_X9_isOnTape : GoodIn wsX9_readElements (wsV RX9 76 RX9 yX9_isOnTape wsX9_isOnTape) := goodIn_app (goodIn_of _ (by decide +kernel)) ggX9_readElements_X9_isOnTape
set_option maxRecDepth 20000 in
theorem ggX9_readElements_X4_empty : GoodIn wsX9_readElements wsX4_empty := goodIn_r _ [22, 23, 24, 25, 26, 27, 28, 29, 30, 31, 278, 279, 280, 281, 274, 275, 276, 277] (by decide +kernel) (by decide +kernel)
set_option maxRecDepth 20000 in
theorem gX9_readElements_X4_empty : GoodIn wsX9_readElements (wsV RX9 105 RX4 yX4_empty wsX4_empty) := goodIn_app (goodIn_of _ (by decide +kernel)) ggX9_readElements_X4_empty
set_option maxRecDepth 20000 in
theorem ggX9_readElements_X1_read : GoodIn wsX9_readElements wsX1_read := goodIn_r _ [36, 37, 38, 39, 40, 41, 42, 43, 44, 45, 46, 47, 48, 49, 50, 51, 35, 52, 53, 54, 55, 56, 57, 58, 59, 60, 61, 62, 63, 64, 65, 66, 67, 68, 69, 70, 71, 72, 73, 28, 74, 30, 75, 76, 77, 78, 79, 80, 81, 82, 83, 84, 85, 86, 87, 88, 89, 90, 91, 92, 93, 94, 95, 96, 97, 98, 99, 100, 101, 102, 103, 104, 105, 106, 107, 108, 109, 110, 111, 112, 113, 114, 115, 116, 117, 118, 119, 120, 121, 122, 123, 124, 125, 126, 127, 128, 129, 130, 131, 132, 133, 134, 135, 136, 137, 138, 139, 140, 141, 142, 143, 144, 145, 146, 147, 148, 149, 150, 151, 152, 153, 154, 155, 156, 157, 158, 159, 160, 161, 162, 163, 164, 165, 166, 167, 168, 169, 170, 171, 172, 173, 174, 175, 176, 177, 178, 179, 180, 181, 182, 183, 184, 185, 186, 187, 188, 189, 190, 191, 192, 193, 194, 195, 196, 197, 198, 199, 200, 201, 202, 203, 204, 205, 206, 207, 208, 209, 210, 211, 212, 213, 21, 214, 23, 24, 215, 216, 217, 218, 219, 220, 221, 222, 223, 224, 225, 226, 227, 228, 229, 31, 230, 231, 232, 233, 234, 235, 236, 237, 238, 239, 261, 262, 263, 264, 265, 266, 267, 268, 269, 270, 271, 272, 273, 282, 283, 284, 285, 286, 274, 275, 276, 277, 278, 279, 280, 281] (by decide +kernel) (by decide +kernel)
set_option maxRecDepth 20000 in
theorem gX9_readElements_X1_read : GoodIn wsX9_readElements (wsV RX9 140 RX1 yX1_read wsX1_read) := goodIn_app (goodIn_of _ (by decide +kernel)) ggX9_readElements_X1_read
set_option maxRecDepth 20000 in
theorem ggX9_readElements_X9_takeSpareList : GoodIn wsX9_readElements wsX9_takeSpareList := goodIn_r _ [243, 3, 5, 244, 1, 245, 246, 26, 27, 28, 29, 30, 31, 247, 248, 249, 250, 251, 252, 253, 254, 255, 256, 257, 258, 259, 260, 278, 279, 280, 281, 274, 275, 276, 277] (by decide +kernel) (by decide +kernel)
set_option maxRecDepth 20000 in
theorem gX9_readElements_X9_takeSpareList : GoodIn wsX9_readElements (wsV RX9 137 RX9 yX9_takeSpareList wsX9_takeSpareList) := goodIn_app (goodIn_of _ (by decide +kernel)) ggX9_readElements_X9_takeSpareList
set_option maxRecDepth 20000 in
theorem ggX9_turn_X8_becomeLike : GoodIn wsX9_turn wsX8_becomeLike := goodIn_r _ [8, 9, 10, 11, 12, 13, 14, 15, 16, 17, 18, 19, 20, 35, 36, 37, 38] (by decide +kernel) (by decide +kernel)
set_option maxRecDepth 20000 in
theorem gX9_turn_X8_becomeLike : GoodIn wsX9_turn (wsV RX9 155 RX8 yX8_becomeLike wsX8_becomeLike) := goodIn_app (goodIn_of _ (by decide +kernel)) ggX9_turn_X8_becomeLike
set_option maxRecDepth 20000 in
theorem ggX9_size_X4_bytesOf : GoodIn wsX9_size wsX4_bytesOf := goodIn_r _ [6, 7, 8, 9, 10, 5, 11, 12, 13, 14, 15, 16, 31, 32, 33, 34] (by decide +kernel) (by decide +kernel)
set_option maxRecDepth 20000 in
theorem gX9_size_X4_bytesOf : GoodIn wsX9_size (wsV RX9 159 RX4 yX4_bytesOf wsX4_bytesOf) := goodIn_app (goodIn_of _ (by decide +kernel)) ggX9_size_X4_bytesOf
set_option maxRecDepth 20000 in
theorem ggX9_time_X4_timeOf : GoodIn wsX9_time wsX4_timeOf := goodIn_r _ [6, 7, 8, 9, 10, 11, 5, 12, 13, 28, 29, 30, 31] (by decide +kernel) (by decide +kernel)
set_option maxRecDepth 20000 in
theorem gX9_time_X4_timeOf : GoodIn wsX9_time (wsV RX9 163 RX4 yX4_timeOf wsX4_timeOf) := goodIn_app (goodIn_of _ (by decide +kernel)) ggX9_time_X4_timeOf
set_option maxRecDepth 20000 in
theorem ggX9_octet_X4_byteOf : GoodIn wsX9_octet wsX4_byteOf := goodIn_r _ [6, 7, 8, 9, 10, 5, 11, 12, 13, 14, 15, 16, 17, 18, 19, 20, 21, 22, 23, 24, 25, 26, 27, 28, 43, 44, 45, 46, 47, 48, 49, 50] (by decide +kernel) (by decide +kernel)
set_option maxRecDepth 20000 in
theorem gX9_octet_X4_byteOf : GoodIn wsX9_octet (wsV RX9 167 RX4 yX4_byteOf wsX4_byteOf) := goodIn_app (goodIn_of _ (by decide +kernel)) ggX9_octet_X4_byteOf
set_option maxRecDepth 20000 in
theorem ggX9_out_X8_at : GoodIn wsX9_out wsX8_at := goodIn_r _ [6, 7, 8, 23, 24, 25, 26] (by decide +kernel) (by decide +kernel)
set_option maxRecDepth 20000 in
theorem gX9_out_X8_at : GoodIn wsX9_out (wsV RX9 171 RX8 yX8_at wsX8_at) := goodIn_app (goodIn_of _ (by decide +kernel)) ggX9_out_X8_at
set_option maxRecDepth 20000 in
theorem ggX9_patch_X8_change : GoodIn wsX9_patch wsX8_change := goodIn_r _ [6, 7, 8, 23, 24, 25, 26] (by decide +kernel) (by decide +kernel)
set_option maxRecDepth 20000 in
theorem gX9_patch_X8_change : GoodIn wsX9_patch (wsV RX9 174 RX8 yX8_change wsX8_change) := goodIn_app (goodIn_of _ (by decide +kernel)) ggX9_patch_X8_change
set_option maxRecDepth 20000 in
theorem ggX9_sum_X5_isMarked : GoodIn wsX9_sum wsX5_isMarked := goodIn_r _ [6, 7, 8, 9, 10, 11, 12, 13, 14, 15, 16, 17, 18, 48, 49, 50, 51] (by decide +kernel) (by decide +kernel)
set_option maxRecDepth 20000 in
theorem gX9_sum_X5_isMarked : GoodIn wsX9_sum (va_wsS RX9 177 yX5_isMarked wsX5_isMarked) := goodIn_app (goodIn_of _ (by decide +kernel)) ggX9_sum_X5_isMarked
set_option maxRecDepth 20000 in
theorem ggX9_sum_X5_endOf : GoodIn wsX9_sum wsX5_endOf := goodIn_r _ [21, 22, 14, 15, 11, 16, 17, 18, 48, 49, 50, 51] (by decide +kernel) (by decide +kernel)
set_option maxRecDepth 20000 in
theorem gX9_sum_X5_endOf : GoodIn wsX9_sum (va_wsS RX9 181 yX5_endOf wsX5_endOf) := goodIn_app (goodIn_of _ (by decide +kernel)) ggX9_sum_X5_endOf
set_option maxRecDepth 20000 in
theorem ggX9_sum_X5_makeSumRight : GoodIn wsX9_sum wsX5_makeSumRight := goodIn_r _ [25, 26, 27, 5, 28, 29, 22, 14, 15, 11, 16, 17, 18, 30, 31, 32, 33, 48, 49, 50, 51] (by decide +kernel) (by decide +kernel)
set_option maxRecDepth 20000 in
theorem gX9_sum_X5_makeSumRight : GoodIn wsX9_sum (va_wsS RX9 185 yX5_makeSumRight wsX5_makeSumRight) := goodIn_app (goodIn_of _ (by decide +kernel)) ggX9_sum_X5_makeSumRight
set_option maxRecDepth 20000 in
theorem ggX9_takeSpareList_X8_empty : GoodIn wsX9_takeSpareList wsX8_empty := goodIn_r _ [10, 11, 12, 31, 32, 33, 34] (by decide +kernel) (by decide +kernel)
set_option maxRecDepth 20000 in
theorem gX9_takeSpareList_X8_empty : GoodIn wsX9_takeSpareList (wsV RX9 99 RX8 yX8_empty wsX8_empty) := goodIn_app (goodIn_of _ (by decide +kernel)) ggX9_takeSpareList_X8_empty
set_option maxRecDepth 20000 in
theorem ggX10_feed_X10_four : GoodIn wsX10_feed wsX10_four := goodIn_r _ [6, 7, 1, 8, 9, 10, 11, 12, 13, 14, 15, 16, 17, 18, 19, 20, 21, 22, 23, 24, 25, 26, 27, 28, 29, 30, 31, 32, 33, 34, 35, 36, 37, 38, 39, 40, 41, 42, 43, 44, 45, 46, 47, 48, 49, 50, 51, 52, 53] (by decide +kernel) (by decide +kernel)
set_option maxRecDepth 20000 in
theorem gX10_feed_X10_four : GoodIn wsX10_feed (wsV RX10 61 RX10 yX10_four wsX10_four) := goodIn_app (goodIn_of _ (by decide +kernel)) ggX10_feed_X10_four
set_option maxRecDepth 20000 in
theorem ggX10_putLow_X10_put : GoodIn wsX10_putLow wsX10_put := goodIn_r _ [5, 6, 7, 8, 9, 10, 11, 12, 13, 14, 15, 16, 17, 18, 19, 20, 21, 22, 23, 24, 25, 26, 27, 28, 29, 30, 31, 32, 33, 34, 35, 36, 37, 38, 39, 40, 41, 42, 43, 44, 45, 46, 47, 48, 49, 50, 51, 52, 53, 54] (by decide +kernel) (by decide +kernel)
set_option maxRecDepth 20000 in
theorem gX10_putLow_X10_put : GoodIn wsX10_putLow (wsV RX10 88 RX10 yX10_put wsX10_put) := goodIn_app (goodIn_of _ (by decide +kernel)) ggX10_putLow_X10_put
set_option maxRecDepth 20000 in
theorem ggX10_putHigh_X10_put : GoodIn wsX10_putHigh wsX10_put := goodIn_r _ [5, 6, 7, 8, 9, 10, 11, 12, 13, 14, 15, 16, 17, 18, 19, 20, 21, 22, 23, 24, 25, 26, 27, 28, 29, 30, 31, 32, 33, 34, 35, 36, 37, 38, 39, 40, 41, 42, 43, 44, 45, 46, 47, 48, 49, 50, 51, 52, 53, 54] (by decide +kernel) (by decide +kernel)
set_option maxRecDepth 20000 in
theorem gX10_putHigh_X10_put : GoodIn wsX10_putHigh (wsV RX10 88 RX10 yX10_put wsX10_put) := goodIn_app (goodIn_of _ (by decide +kernel)) ggX10_putHigh_X10_put
set_option maxRecDepth 20000 in
theorem ggX10_putRow_X10_put : GoodIn wsX10_putRow wsX10_put := goodIn_r _ [5, 6, 7, 8, 9, 10, 11, 12, 13, 14, 15, 16, 17, 18, 19, 20, 21, 22, 23, 24, 25, 26, 27, 28, 29, 30, 31, 32, 33, 34, 35, 36, 37, 38, 39, 40, 41, 42, 43, 44, 45, 46, 47, 48, 49, 50, 51, 52, 53, 54] (by decide +kernel) (by decide +kernel)
set_option maxRecDepth 20000 in
theorem gX10_putRow_X10_put : GoodIn wsX10_putRow (wsV RX10 88 RX10 yX10_put wsX10_put) := goodIn_app (goodIn_of _ (by decide +kernel)) ggX10_putRow_X10_put
set_option maxRecDepth 20000 in
theorem ggX10_putSum_X10_sumOf : GoodIn wsX10_putSum wsX10_sumOf := goodIn_r _ [4, 5] (by decide +kernel) (by decide +kernel)
set_option maxRecDepth 20000 in
theorem gX10_putSum_X10_sumOf : GoodIn wsX10_putSum (va_wsS RX10 95 yX10_sumOf wsX10_sumOf) := goodIn_app (goodIn_of _ (by decide +kernel)) ggX10_putSum_X10_sumOf
set_option maxRecDepth 20000 in
theorem ggX10_pages_X10_put : GoodIn wsX10_pages wsX10_put := goodIn_r _ [13, 4, 5, 8, 39, 40, 41, 42, 43, 44, 45, 46, 47, 48, 49, 50, 51, 52, 53, 54, 55, 56, 57, 58, 59, 60, 61, 62, 63, 64, 65, 66, 67, 68, 69, 70, 71, 72, 73, 74, 75, 76, 77, 78, 79, 80, 81, 82, 83, 84] (by decide +kernel) (by decide +kernel)
set_option maxRecDepth 20000 in
theorem gX10_pages_X10_put : GoodIn wsX10_pages (wsV RX10 88 RX10 yX10_put wsX10_put) := goodIn_app (goodIn_of _ (by decide +kernel)) ggX10_pages_X10_put
set_option maxRecDepth 20000 in
theorem ggX10_pages_X10_timeOf : GoodIn wsX10_pages wsX10_timeOf := goodIn_r _ [17, 3, 2, 39, 40, 41, 42, 43, 44, 45, 46, 47, 48, 49, 50, 51, 52, 53, 54, 55, 56, 57, 58, 59, 60, 61, 62, 63, 64, 65, 66, 67, 68, 69, 70, 71, 72, 73, 74, 75, 76, 77, 78, 79, 80, 81, 82, 83, 84] (by decide +kernel) (by decide +kernel)
set_option maxRecDepth 20000 in
theorem gX10_pages_X10_timeOf : GoodIn wsX10_pages (wsV RX10 99 RX10 yX10_timeOf wsX10_timeOf) := goodIn_app (goodIn_of _ (by decide +kernel)) ggX10_pages_X10_timeOf
set_option maxRecDepth 20000 in
theorem ggX10_pages_X10_putLow : GoodIn wsX10_pages wsX10_putLow := goodIn_r _ [21, 9, 10, 11, 12, 13, 4, 5, 8, 39, 40, 41, 42, 43, 44, 45, 46, 47, 48, 49, 50, 51, 52, 53, 54, 55, 56, 57, 58, 59, 60, 61, 62, 63, 64, 65, 66, 67, 68, 69, 70, 71, 72, 73, 74, 75, 76, 77, 78, 79, 80, 81, 82, 83, 84] (by decide +kernel) (by decide +kernel)
set_option maxRecDepth 20000 in
theorem gX10_pages_X10_putLow : GoodIn wsX10_pages (wsV RX10 103 RX10 yX10_putLow wsX10_putLow) := goodIn_app (goodIn_of _ (by decide +kernel)) ggX10_pages_X10_putLow
set_option maxRecDepth 20000 in
theorem ggX10_pages_X10_segmentsFrom : GoodIn wsX10_pages wsX10_segmentsFrom := goodIn_r _ [25, 6, 9, 10, 11, 12, 13, 4, 5, 8, 39, 40, 41, 42, 43, 44, 45, 46, 47, 48, 49, 50, 51, 52, 53, 54, 55, 56, 57, 58, 59, 60, 61, 62, 63, 64, 65, 66, 67, 68, 69, 70, 71, 72, 73, 74, 75, 76, 77, 78, 79, 80, 81, 82, 83, 84] (by decide +kernel) (by decide +kernel)
set_option maxRecDepth 20000 in
theorem gX10_pages_X10_segmentsFrom : GoodIn wsX10_pages (wsV RX10 107 RX10 yX10_segmentsFrom wsX10_segmentsFrom) := goodIn_app (goodIn_of _ (by decide +kernel)) ggX10_pages_X10_segmentsFrom
set_option maxRecDepth 20000 in
theorem ggX10_pages_X10_putSum : GoodIn wsX10_pages wsX10_putSum := goodIn_r _ [28, 29, 30, 12, 31, 32] (by decide +kernel) (by decide +kernel)
set_option maxRecDepth 20000 in
theorem gX10_pages_X10_putSum : GoodIn wsX10_pages (va_wsS RX10 111 yX10_putSum wsX10_putSum) := goodIn_app (goodIn_of _ (by decide +kernel)) ggX10_pages_X10_putSum
set_option maxRecDepth 20000 in
theorem ggX10_pages_X10_drawn : GoodIn wsX10_pages wsX10_drawn := goodIn_r _ [36, 5, 4, 37, 8, 38, 39, 40, 41, 42, 43, 44, 45, 46, 47, 48, 49, 50, 51, 52, 53, 54, 55, 56, 57, 58, 59, 60, 61, 62, 63, 64, 65, 66, 67, 68, 69, 70, 71, 72, 73, 74, 75, 76, 77, 78, 79, 80, 81, 82, 83, 84] (by decide +kernel) (by decide +kernel)
set_option maxRecDepth 20000 in
theorem gX10_pages_X10_drawn : GoodIn wsX10_pages (wsV RX10 115 RX10 yX10_drawn wsX10_drawn) := goodIn_app (goodIn_of _ (by decide +kernel)) ggX10_pages_X10_drawn
set_option maxRecDepth 20000 in
theorem ggX10_segmentsFrom_X10_put : GoodIn wsX10_segmentsFrom wsX10_put := goodIn_r _ [6, 7, 8, 9, 10, 11, 12, 13, 14, 15, 16, 17, 18, 19, 20, 21, 22, 23, 24, 25, 26, 27, 28, 29, 30, 31, 32, 33, 34, 35, 36, 37, 38, 39, 40, 41, 42, 43, 44, 45, 46, 47, 48, 49, 50, 51, 52, 53, 54, 55] (by decide +kernel) (by decide +kernel)
set_option maxRecDepth 20000 in
theorem gX10_segmentsFrom_X10_put : GoodIn wsX10_segmentsFrom (wsV RX10 88 RX10 yX10_put wsX10_put) := goodIn_app (goodIn_of _ (by decide +kernel)) ggX10_segmentsFrom_X10_put
set_option maxRecDepth 20000 in
theorem ggX10_low_X10_at : GoodIn wsX10_low wsX10_at := goodIn_r _ [5, 6, 7, 8, 9, 10, 11, 12, 13, 14, 15, 16, 17, 18, 19, 20, 21, 22, 23, 24, 25, 26, 27, 28, 29, 30, 31, 32, 33, 34, 35, 36, 37, 38, 39, 40, 41, 42, 43, 44, 45, 46, 47, 48, 49, 50, 51, 52] (by decide +kernel) (by decide +kernel)
set_option maxRecDepth 20000 in
theorem gX10_low_X10_at : GoodIn wsX10_low (wsV RX10 125 RX10 yX10_at wsX10_at) := goodIn_app (goodIn_of _ (by decide +kernel)) ggX10_low_X10_at
set_option maxRecDepth 20000 in
theorem ggX10_ends_X10_takeList : GoodIn wsX10_ends wsX10_takeList := goodIn_r _ [10, 11, 5, 12, 13, 14, 15, 16, 17, 18, 19, 20, 21, 22, 23, 24, 25, 26, 27, 28, 29, 30, 31, 32, 33, 34, 35, 36, 37, 38, 39, 40, 41, 42, 43, 44, 45, 46, 47, 48, 49, 50, 51, 52, 53, 54, 55, 56, 57, 58, 59, 60, 61, 62, 63, 64, 65] (by decide +kernel) (by decide +kernel)
set_option maxRecDepth 20000 in
theorem gX10_ends_X10_takeList : GoodIn wsX10_ends (wsV RX10 132 RX10 yX10_takeList wsX10_takeList) := goodIn_app (goodIn_of _ (by decide +kernel)) ggX10_ends_X10_takeList
set_option maxRecDepth 20000 in
theorem ggX10_readPages_X10_begin : GoodIn wsX10_readPages wsX10_begin := goodIn_r _ [13, 7, 14, 15, 16, 75, 76, 77, 78, 79, 80, 81, 82, 83, 84, 85, 86, 87, 88, 89, 90, 91, 92, 93, 94, 95, 96, 97, 98, 99, 100, 101, 102, 103, 104, 105, 106, 107, 108, 109, 110, 111, 112, 113, 114, 115, 116, 117, 118, 119, 120] (by decide +kernel) (by decide +kernel)
set_option maxRecDepth 20000 in
theorem gX10_readPages_X10_begin : GoodIn wsX10_readPages (wsV RX10 135 RX10 yX10_begin wsX10_begin) := goodIn_app (goodIn_of _ (by decide +kernel)) ggX10_readPages_X10_begin
set_option maxRecDepth 20000 in
theorem ggX10_readPages_X10_fails : GoodIn wsX10_readPages wsX10_fails := goodIn_r _ [20, 7, 14, 75, 76, 77, 78, 79, 80, 81, 82, 83, 84, 85, 86, 87, 88, 89, 90, 91, 92, 93, 94, 95, 96, 97, 98, 99, 100, 101, 102, 103, 104, 105, 106, 107, 108, 109, 110, 111, 112, 113, 114, 115, 116, 117, 118, 119, 120] (by decide +kernel) (by decide +kernel)
set_option maxRecDepth 20000 in
theorem gX10_readPages_X10_fails : GoodIn wsX10_readPages (wsV RX10 151 RX10 yX10_fails wsX10_fails) := goodIn_app (goodIn_of _ (by decide +kernel)) ggX10_readPages_X10_fails
set_option maxRecDepth 20000 in
theorem ggX10_readPages_X10_page : GoodIn wsX10_readPages wsX10_page := goodIn_r _ [24, 25, 2, 4, 26, 27, 3, 17, 18, 19, 12, 20, 7, 14, 28, 29, 30, 31, 32, 33, 34, 35, 36, 37, 38, 39, 40, 41, 42, 43, 44, 45, 46, 47, 48, 49, 50, 51, 52, 53, 54, 55, 56, 6, 5, 15, 16, 57, 58, 59, 75, 76, 77, 78, 79, 80, 81, 82, 83, 84, 85, 86, 87, 88, 89, 90, 91, 92, 93, 94, 95, 96, 97, 98, 99, 100, 101, 102, 103, 104, 105, 106, 107, 108, 109, 110, 111, 112, 113, 114, 115, 116, 117, 118, 119, 120] (by decide +kernel) (by decide +kernel)
set_option maxRecDepth 20000 in
theorem gX10_readPages_X10_page : GoodIn wsX10_readPages (wsV RX10 155 RX10 yX10_page wsX10_page) := goodIn_app (goodIn_of _ (by decide +kernel)) ggX10_readPages_X10_page
set_option maxRecDepth 20000 in
theorem ggX10_readPages_X10_lengthOf : GoodIn wsX10_readPages wsX10_lengthOf := goodIn_r _ [43, 32, 33, 34, 12, 35, 25, 75, 76, 77, 78, 79, 80, 81, 82, 83, 84, 85, 86, 87, 88, 89, 90, 91, 92, 93, 94, 95, 96, 97, 98, 99, 100, 101, 102, 103, 104, 105, 106, 107, 108, 109, 110, 111, 112, 113, 114, 115, 116, 117, 118, 119, 120] (by decide +kernel) (by decide +kernel)
set_option maxRecDepth 20000 in
theorem gX10_readPages_X10_lengthOf : GoodIn wsX10_readPages (wsV RX10 158 RX10 yX10_lengthOf wsX10_lengthOf) := goodIn_app (goodIn_of _ (by decide +kernel)) ggX10_readPages_X10_lengthOf
set_option maxRecDepth 20000 in
theorem ggX10_readPages_X10_ends : GoodIn wsX10_readPages wsX10_ends := goodIn_r _ [63, 7, 64, 14, 65, 66, 67, 68, 69, 12, 70, 15, 16, 71, 72, 58, 73, 59, 74, 57, 75, 76, 77, 78, 79, 80, 81, 82, 83, 84, 85, 86, 87, 88, 89, 90, 91, 92, 93, 94, 95, 96, 97, 98, 99, 100, 101, 102, 103, 104, 105, 106, 107, 108, 109, 110, 111, 112, 113, 114, 115, 116, 117, 118, 119, 120] (by decide +kernel) (by decide +kernel)
set_option maxRecDepth 20000 in
theorem gX10_readPages_X10_ends : GoodIn wsX10_readPages (wsV RX10 164 RX10 yX10_ends wsX10_ends) := goodIn_app (goodIn_of _ (by decide +kernel)) ggX10_readPages_X10_ends
set_option maxRecDepth 20000 in
theorem ggX10_lengthOf_X10_at : GoodIn wsX10_lengthOf wsX10_at := goodIn_r _ [5, 6, 7, 8, 9, 10, 11, 12, 13, 14, 15, 16, 17, 18, 19, 20, 21, 22, 23, 24, 25, 26, 27, 28, 29, 30, 31, 32, 33, 34, 35, 36, 37, 38, 39, 40, 41, 42, 43, 44, 45, 46, 47, 48, 49, 50, 51, 52] (by decide +kernel) (by decide +kernel)
set_option maxRecDepth 20000 in
theorem gX10_lengthOf_X10_at : GoodIn wsX10_lengthOf (wsV RX10 125 RX10 yX10_at wsX10_at) := goodIn_app (goodIn_of _ (by decide +kernel)) ggX10_lengthOf_X10_at
set_option maxRecDepth 20000 in
theorem ggX10_isMark_X10_at : GoodIn wsX10_isMark wsX10_at := goodIn_r _ [5, 6, 7, 8, 9, 10, 11, 12, 13, 14, 15, 16, 17, 18, 19, 20, 21, 22, 23, 24, 25, 26, 27, 28, 29, 30, 31, 32, 33, 34, 35, 36, 37, 38, 39, 40, 41, 42, 43, 44, 45, 46, 47, 48, 49, 50, 51, 52] (by decide +kernel) (by decide +kernel)
set_option maxRecDepth 20000 in
theorem gX10_isMark_X10_at : GoodIn wsX10_isMark (wsV RX10 125 RX10 yX10_at wsX10_at) := goodIn_app (goodIn_of _ (by decide +kernel)) ggX10_isMark_X10_at
set_option maxRecDepth 20000 in
theorem ggX10_isWhole_X10_at : GoodIn wsX10_isWhole wsX10_at := goodIn_r _ [5, 6, 11, 12, 13, 14, 15, 16, 17, 18, 19, 20, 21, 22, 23, 24, 25, 26, 27, 28, 29, 30, 31, 32, 33, 34, 35, 36, 37, 38, 39, 40, 41, 42, 43, 44, 45, 46, 47, 48, 49, 50, 51, 52, 53, 54, 55, 56] (by decide +kernel) (by decide +kernel)
set_option maxRecDepth 20000 in
theorem gX10_isWhole_X10_at : GoodIn wsX10_isWhole (wsV RX10 125 RX10 yX10_at wsX10_at) := goodIn_app (goodIn_of _ (by decide +kernel)) ggX10_isWhole_X10_at
set_option maxRecDepth 20000 in
theorem ggX10_isWhole_X10_lengthOf : GoodIn wsX10_isWhole wsX10_lengthOf := goodIn_r _ [10, 1, 2, 3, 4, 5, 6, 11, 12, 13, 14, 15, 16, 17, 18, 19, 20, 21, 22, 23, 24, 25, 26, 27, 28, 29, 30, 31, 32, 33, 34, 35, 36, 37, 38, 39, 40, 41, 42, 43, 44, 45, 46, 47, 48, 49, 50, 51, 52, 53, 54, 55, 56] (by decide +kernel) (by decide +kernel)
set_option maxRecDepth 20000 in
theorem gX10_isWhole_X10_lengthOf : GoodIn wsX10_isWhole (wsV RX10 158 RX10 yX10_lengthOf wsX10_lengthOf) := goodIn_app (goodIn_of _ (by decide +kernel)) ggX10_isWhole_X10_lengthOf
set_option maxRecDepth 20000 in
theorem ggX10_page_X10_fails : GoodIn wsX10_page wsX10_fails := goodIn_r _ [11, 12, 13, 50, 51, 52, 53, 54, 55, 56, 57, 58, 59, 60, 61, 62, 63, 64, 65, 66, 67, 68, 69, 70, 71, 72, 73, 74, 75, 76, 77, 78, 79, 80, 81, 82, 83, 84, 85, 86, 87, 88, 89, 90, 91, 92, 93, 94, 95] (by decide +kernel) (by decide +kernel)
set_option maxRecDepth 20000 in
theorem gX10_page_X10_fails : GoodIn wsX10_page (wsV RX10 151 RX10 yX10_fails wsX10_fails) := goodIn_app (goodIn_of _ (by decide +kernel)) ggX10_page_X10_fails
set_option maxRecDepth 20000 in
theorem ggX10_page_X10_isMark : GoodIn wsX10_page wsX10_isMark := goodIn_r _ [17, 18, 19, 20, 10, 21, 1, 50, 51, 52, 53, 54, 55, 56, 57, 58, 59, 60, 61, 62, 63, 64, 65, 66, 67, 68, 69, 70, 71, 72, 73, 74, 75, 76, 77, 78, 79, 80, 81, 82, 83, 84, 85, 86, 87, 88, 89, 90, 91, 92, 93, 94, 95] (by decide +kernel) (by decide +kernel)
set_option maxRecDepth 20000 in
theorem gX10_page_X10_isMark : GoodIn wsX10_page (wsV RX10 167 RX10 yX10_isMark wsX10_isMark) := goodIn_app (goodIn_of _ (by decide +kernel)) ggX10_page_X10_isMark
set_option maxRecDepth 20000 in
theorem ggX10_page_X10_at : GoodIn wsX10_page wsX10_at := goodIn_r _ [21, 1, 50, 51, 52, 53, 54, 55, 56, 57, 58, 59, 60, 61, 62, 63, 64, 65, 66, 67, 68, 69, 70, 71, 72, 73, 74, 75, 76, 77, 78, 79, 80, 81, 82, 83, 84, 85, 86, 87, 88, 89, 90, 91, 92, 93, 94, 95] (by decide +kernel) (by decide +kernel)
set_option maxRecDepth 20000 in
theorem gX10_page_X10_at : GoodIn wsX10_page (wsV RX10 125 RX10 yX10_at wsX10_at) := goodIn_app (goodIn_of _ (by decide +kernel)) ggX10_page_X10_at
set_option maxRecDepth 20000 in
theorem ggX10_page_X10_isWhole : GoodIn wsX10_page wsX10_isWhole := goodIn_r _ [25, 18, 19, 20, 10, 21, 1, 26, 27, 28, 29, 50, 51, 52, 53, 54, 55, 56, 57, 58, 59, 60, 61, 62, 63, 64, 65, 66, 67, 68, 69, 70, 71, 72, 73, 74, 75, 76, 77, 78, 79, 80, 81, 82, 83, 84, 85, 86, 87, 88, 89, 90, 91, 92, 93, 94, 95] (by decide +kernel) (by decide +kernel)
set_option maxRecDepth 20000 in
theorem gX10_page_X10_isWhole : GoodIn wsX10_page (wsV RX10 171 RX10 yX10_isWhole wsX10_isWhole) := goodIn_app (goodIn_of _ (by decide +kernel)) ggX10_page_X10_isWhole
set_option maxRecDepth 20000 in
theorem ggX10_page_X10_lengthOf : GoodIn wsX10_page wsX10_lengthOf := goodIn_r _ [29, 18, 19, 20, 10, 21, 1, 50, 51, 52, 53, 54, 55, 56, 57, 58, 59, 60, 61, 62, 63, 64, 65, 66, 67, 68, 69, 70, 71, 72, 73, 74, 75, 76, 77, 78, 79, 80, 81, 82, 83, 84, 85, 86, 87, 88, 89, 90, 91, 92, 93, 94, 95] (by decide +kernel) (by decide +kernel)
set_option maxRecDepth 20000 in
theorem gX10_page_X10_lengthOf : GoodIn wsX10_page (wsV RX10 158 RX10 yX10_lengthOf wsX10_lengthOf) := goodIn_app (goodIn_of _ (by decide +kernel)) ggX10_page_X10_lengthOf
set_option maxRecDepth 20000 in
theorem ggX10_page_X10_low : GoodIn wsX10_page wsX10_low := goodIn_r _ [33, 18, 19, 20, 10, 21, 1, 50, 51, 52, 53, 54, 55, 56, 57, 58, 59, 60, 61, 62, 63, 64, 65, 66, 67, 68, 69, 70, 71, 72, 73, 74, 75, 76, 77, 78, 79, 80, 81, 82, 83, 84, 85, 86, 87, 88, 89, 90, 91, 92, 93, 94, 95] (by decide +kernel) (by decide +kernel)
set_option maxRecDepth 20000 in
theorem gX10_page_X10_low : GoodIn wsX10_page (wsV RX10 174 RX10 yX10_low wsX10_low) := goodIn_app (goodIn_of _ (by decide +kernel)) ggX10_page_X10_low
set_option maxRecDepth 20000 in
theorem ggX10_page_X10_sumOf : GoodIn wsX10_page wsX10_sumOf := goodIn_r _ [36, 37] (by decide +kernel) (by decide +kernel)
set_option maxRecDepth 20000 in
theorem gX10_page_X10_sumOf : GoodIn wsX10_page (va_wsS RX10 95 yX10_sumOf wsX10_sumOf) := goodIn_app (goodIn_of _ (by decide +kernel)) ggX10_page_X10_sumOf
set_option maxRecDepth 20000 in
theorem ggX10_page_X10_packets : GoodIn wsX10_page wsX10_packets := goodIn_r _ [41, 42, 43, 44, 6, 45, 46, 47, 1, 48, 49, 5, 4, 3, 2, 18, 19, 20, 10, 21, 30, 31, 32, 33, 7, 8, 9, 11, 12, 13, 50, 51, 52, 53, 54, 55, 56, 57, 58, 59, 60, 61, 62, 63, 64, 65, 66, 67, 68, 69, 70, 71, 72, 73, 74, 75, 76, 77, 78, 79, 80, 81, 82, 83, 84, 85, 86, 87, 88, 89, 90, 91, 92, 93, 94, 95] (by decide +kernel) (by decide +kernel)
set_option maxRecDepth 20000 in
theorem gX10_page_X10_packets : GoodIn wsX10_page (wsV RX10 184 RX10 yX10_packets wsX10_packets) := goodIn_app (goodIn_of _ (by decide +kernel)) ggX10_page_X10_packets
set_option maxRecDepth 20000 in
theorem ggX10_packets_X10_at : GoodIn wsX10_packets wsX10_at := goodIn_r _ [19, 8, 30, 31, 32, 33, 34, 35, 36, 37, 38, 39, 40, 41, 42, 43, 44, 45, 46, 47, 48, 49, 50, 51, 52, 53, 54, 55, 56, 57, 58, 59, 60, 61, 62, 63, 64, 65, 66, 67, 68, 69, 70, 71, 72, 73, 74, 75] (by decide +kernel) (by decide +kernel)
set_option maxRecDepth 20000 in
theorem gX10_packets_X10_at : GoodIn wsX10_packets (wsV RX10 125 RX10 yX10_at wsX10_at) := goodIn_app (goodIn_of _ (by decide +kernel)) ggX10_packets_X10_at
set_option maxRecDepth 20000 in
theorem ggX10_packets_X10_low : GoodIn wsX10_packets wsX10_low := goodIn_r _ [23, 15, 16, 17, 18, 19, 8, 30, 31, 32, 33, 34, 35, 36, 37, 38, 39, 40, 41, 42, 43, 44, 45, 46, 47, 48, 49, 50, 51, 52, 53, 54, 55, 56, 57, 58, 59, 60, 61, 62, 63, 64, 65, 66, 67, 68, 69, 70, 71, 72, 73, 74, 75] (by decide +kernel) (by decide +kernel)
set_option maxRecDepth 20000 in
theorem gX10_packets_X10_low : GoodIn wsX10_packets (wsV RX10 174 RX10 yX10_low wsX10_low) := goodIn_app (goodIn_of _ (by decide +kernel)) ggX10_packets_X10_low
set_option maxRecDepth 20000 in
theorem ggX10_packets_X10_fails : GoodIn wsX10_packets wsX10_fails := goodIn_r _ [27, 28, 29, 30, 31, 32, 33, 34, 35, 36, 37, 38, 39, 40, 41, 42, 43, 44, 45, 46, 47, 48, 49, 50, 51, 52, 53, 54, 55, 56, 57, 58, 59, 60, 61, 62, 63, 64, 65, 66, 67, 68, 69, 70, 71, 72, 73, 74, 75] (by decide +kernel) (by decide +kernel)
set_option maxRecDepth 20000 in
theorem gX10_packets_X10_fails : GoodIn wsX10_packets (wsV RX10 151 RX10 yX10_fails wsX10_fails) := goodIn_app (goodIn_of _ (by decide +kernel)) ggX10_packets_X10_fails
set_option maxRecDepth 20000 in
theorem ggX10_sizeAt_X10_at : GoodIn wsX10_sizeAt wsX10_at := goodIn_r _ [6, 7, 8, 9, 10, 11, 12, 13, 14, 15, 16, 17, 18, 19, 20, 21, 22, 23, 24, 25, 26, 27, 28, 29, 30, 31, 32, 33, 34, 35, 36, 37, 38, 39, 40, 41, 42, 43, 44, 45, 46, 47, 48, 49, 50, 51, 52, 53] (by decide +kernel) (by decide +kernel)
set_option maxRecDepth 20000 in
theorem gX10_sizeAt_X10_at : GoodIn wsX10_sizeAt (wsV RX10 125 RX10 yX10_at wsX10_at) := goodIn_app (goodIn_of _ (by decide +kernel)) ggX10_sizeAt_X10_at
set_option maxRecDepth 20000 in
theorem ggX10_name_X10_at : GoodIn wsX10_name wsX10_at := goodIn_r _ [7, 8, 32, 33, 34, 35, 36, 37, 38, 39, 40, 41, 42, 43, 44, 45, 46, 47, 48, 49, 50, 51, 52, 53, 54, 55, 56, 57, 58, 59, 60, 61, 62, 63, 64, 65, 66, 67, 68, 69, 70, 71, 72, 73, 74, 75, 76, 77] (by decide +kernel) (by decide +kernel)
set_option maxRecDepth 20000 in
theorem gX10_name_X10_at : GoodIn wsX10_name (wsV RX10 125 RX10 yX10_at wsX10_at) := goodIn_app (goodIn_of _ (by decide +kernel)) ggX10_name_X10_at
set_option maxRecDepth 20000 in
theorem ggX10_name_X10_fails : GoodIn wsX10_name wsX10_fails := goodIn_r _ [12, 13, 14, 32, 33, 34, 35, 36, 37, 38, 39, 40, 41, 42, 43, 44, 45, 46, 47, 48, 49, 50, 51, 52, 53, 54, 55, 56, 57, 58, 59, 60, 61, 62, 63, 64, 65, 66, 67, 68, 69, 70, 71, 72, 73, 74, 75, 76, 77] (by decide +kernel) (by decide +kernel)
set_option maxRecDepth 20000 in
theorem gX10_name_X10_fails : GoodIn wsX10_name (wsV RX10 151 RX10 yX10_fails wsX10_fails) := goodIn_app (goodIn_of _ (by decide +kernel)) ggX10_name_X10_fails
set_option maxRecDepth 20000 in
theorem ggX10_name_X10_lengthBy : GoodIn wsX10_name wsX10_lengthBy := goodIn_r _ [17] (by decide +kernel) (by decide +kernel)
set_option maxRecDepth 20000 in
theorem gX10_name_X10_lengthBy : GoodIn wsX10_name (va_wsS RX10 188 yX10_lengthBy wsX10_lengthBy) := goodIn_app (goodIn_of _ (by decide +kernel)) ggX10_name_X10_lengthBy
set_option maxRecDepth 20000 in
theorem ggX10_name_X10_mayStand : GoodIn wsX10_name wsX10_mayStand := goodIn_r _ [21, 1, 22, 23, 24, 25, 26, 27, 28, 29, 30, 6, 31, 32, 33, 34, 35, 36, 37, 38, 39, 40, 41, 42, 43, 44, 45, 46, 47, 48, 49, 50, 51, 52, 53, 54, 55, 56, 57, 58, 59, 60, 61, 62, 63, 64, 65, 66, 67, 68, 69, 70, 71, 72, 73, 74, 75, 76, 77] (by decide +kernel) (by decide +kernel)
set_option maxRecDepth 20000 in
theorem gX10_name_X10_mayStand : GoodIn wsX10_name (wsV RX10 197 RX10 yX10_mayStand wsX10_mayStand) := goodIn_app (goodIn_of _ (by decide +kernel)) ggX10_name_X10_mayStand
set_option maxRecDepth 20000 in
theorem ggX10_head_X10_fails : GoodIn wsX10_head wsX10_fails := goodIn_r _ [13, 14, 15, 28, 29, 30, 31, 32, 33, 34, 35, 36, 37, 38, 39, 40, 41, 42, 43, 44, 45, 46, 47, 48, 49, 50, 51, 52, 53, 54, 55, 56, 57, 58, 59, 60, 61, 62, 63, 64, 65, 66, 67, 68, 69, 70, 71, 72, 73] (by decide +kernel) (by decide +kernel)
set_option maxRecDepth 20000 in
theorem gX10_head_X10_fails : GoodIn wsX10_head (wsV RX10 151 RX10 yX10_fails wsX10_fails) := goodIn_app (goodIn_of _ (by decide +kernel)) ggX10_head_X10_fails
set_option maxRecDepth 20000 in
theorem ggX10_head_X10_at : GoodIn wsX10_head wsX10_at := goodIn_r _ [19, 20, 28, 29, 30, 31, 32, 33, 34, 35, 36, 37, 38, 39, 40, 41, 42, 43, 44, 45, 46, 47, 48, 49, 50, 51, 52, 53, 54, 55, 56, 57, 58, 59, 60, 61, 62, 63, 64, 65, 66, 67, 68, 69, 70, 71, 72, 73] (by decide +kernel) (by decide +kernel)
set_option maxRecDepth 20000 in
theorem gX10_head_X10_at : GoodIn wsX10_head (wsV RX10 125 RX10 yX10_at wsX10_at) := goodIn_app (goodIn_of _ (by decide +kernel)) ggX10_head_X10_at
set_option maxRecDepth 20000 in
theorem ggX10_head_X10_lengthBy : GoodIn wsX10_head wsX10_lengthBy := goodIn_r _ [23] (by decide +kernel) (by decide +kernel)
set_option maxRecDepth 20000 in
theorem gX10_head_X10_lengthBy : GoodIn wsX10_head (va_wsS RX10 188 yX10_lengthBy wsX10_lengthBy) := goodIn_app (goodIn_of _ (by decide +kernel)) ggX10_head_X10_lengthBy
set_option maxRecDepth 20000 in
theorem ggX10_head_X10_sizeAt : GoodIn wsX10_head wsX10_sizeAt := goodIn_r _ [27, 2, 16, 17, 18, 12, 19, 20, 28, 29, 30, 31, 32, 33, 34, 35, 36, 37, 38, 39, 40, 41, 42, 43, 44, 45, 46, 47, 48, 49, 50, 51, 52, 53, 54, 55, 56, 57, 58, 59, 60, 61, 62, 63, 64, 65, 66, 67, 68, 69, 70, 71, 72, 73] (by decide +kernel) (by decide +kernel)
set_option maxRecDepth 20000 in
theorem gX10_head_X10_sizeAt : GoodIn wsX10_head (wsV RX10 200 RX10 yX10_sizeAt wsX10_sizeAt) := goodIn_app (goodIn_of _ (by decide +kernel)) ggX10_head_X10_sizeAt
set_option maxRecDepth 20000 in
theorem ggX10_mayStand_X10_bitOfHead : GoodIn wsX10_mayStand wsX10_bitOfHead := goodIn_r _ [12, 1, 13, 14, 15, 16, 17, 18, 19, 20, 21, 22, 23, 24, 25, 26, 27, 28, 29, 30, 31, 32, 33, 34, 35, 36, 37, 38, 39, 40, 41, 42, 43, 44, 45, 46, 47, 48, 49, 50, 51, 52, 53, 54, 55, 56, 57, 58] (by decide +kernel) (by decide +kernel)
set_option maxRecDepth 20000 in
theorem gX10_mayStand_X10_bitOfHead : GoodIn wsX10_mayStand (wsV RX10 214 RX10 yX10_bitOfHead wsX10_bitOfHead) := goodIn_app (goodIn_of _ (by decide +kernel)) ggX10_mayStand_X10_bitOfHead
set_option maxRecDepth 20000 in
theorem ggX10_bit_X10_bitOfHead : GoodIn wsX10_bit wsX10_bitOfHead := goodIn_r _ [11, 1, 12, 13, 14, 15, 16, 17, 18, 19, 20, 21, 22, 23, 24, 25, 26, 27, 28, 29, 30, 31, 32, 33, 34, 35, 36, 37, 38, 39, 40, 41, 42, 43, 44, 45, 46, 47, 48, 49, 50, 51, 52, 53, 54, 55, 56, 57] (by decide +kernel) (by decide +kernel)
set_option maxRecDepth 20000 in
theorem gX10_bit_X10_bitOfHead : GoodIn wsX10_bit (wsV RX10 214 RX10 yX10_bitOfHead wsX10_bitOfHead) := goodIn_app (goodIn_of _ (by decide +kernel)) ggX10_bit_X10_bitOfHead
set_option maxRecDepth 20000 in
theorem ggX10_elements_X10_isCluster : GoodIn wsX10_elements wsX10_isCluster := goodIn_r _ [13, 14, 15, 16, 12, 17, 18, 112, 113, 114, 115, 116, 117, 118, 119, 120, 121, 122, 123, 124, 125, 126, 127, 128, 129, 130, 131, 132, 133, 134, 135, 136, 137, 138, 139, 140, 141, 142, 143, 144, 145, 146, 147, 148, 149, 150, 151, 152, 153, 154, 155, 156, 157] (by decide +kernel) (by decide +kernel)
set_option maxRecDepth 20000 in
theorem gX10_elements_X10_isCluster : GoodIn wsX10_elements (wsV RX10 220 RX10 yX10_isCluster wsX10_isCluster) := goodIn_app (goodIn_of _ (by decide +kernel)) ggX10_elements_X10_isCluster
set_option maxRecDepth 20000 in
theorem ggX10_elements_X10_name : GoodIn wsX10_elements wsX10_name := goodIn_r _ [22, 1, 7, 14, 15, 16, 12, 17, 18, 23, 24, 25, 26, 27, 28, 29, 30, 31, 32, 33, 34, 35, 36, 37, 2, 38, 39, 40, 41, 42, 43, 44, 112, 113, 114, 115, 116, 117, 118, 119, 120, 121, 122, 123, 124, 125, 126, 127, 128, 129, 130, 131, 132, 133, 134, 135, 136, 137, 138, 139, 140, 141, 142, 143, 144, 145, 146, 147, 148, 149, 150, 151, 152, 153, 154, 155, 156, 157] (by decide +kernel) (by decide +kernel)
set_option maxRecDepth 20000 in
theorem gX10_elements_X10_name : GoodIn wsX10_elements (wsV RX10 223 RX10 yX10_name wsX10_name) := goodIn_app (goodIn_of _ (by decide +kernel)) ggX10_elements_X10_name
set_option maxRecDepth 20000 in
theorem ggX10_elements_X10_head : GoodIn wsX10_elements wsX10_head := goodIn_r _ [48, 7, 49, 4, 1, 37, 2, 50, 3, 23, 24, 25, 12, 26, 27, 28, 14, 15, 16, 17, 18, 29, 30, 31, 51, 52, 53, 54, 112, 113, 114, 115, 116, 117, 118, 119, 120, 121, 122, 123, 124, 125, 126, 127, 128, 129, 130, 131, 132, 133, 134, 135, 136, 137, 138, 139, 140, 141, 142, 143, 144, 145, 146, 147, 148, 149, 150, 151, 152, 153, 154, 155, 156, 157] (by decide +kernel) (by decide +kernel)
set_option maxRecDepth 20000 in
theorem gX10_elements_X10_head : GoodIn wsX10_elements (wsV RX10 227 RX10 yX10_head wsX10_head) := goodIn_app (goodIn_of _ (by decide +kernel)) ggX10_elements_X10_head
set_option maxRecDepth 20000 in
theorem ggX10_elements_X10_bit : GoodIn wsX10_elements wsX10_bit := goodIn_r _ [58, 1, 36, 37, 38, 39, 40, 41, 42, 43, 12, 44, 112, 113, 114, 115, 116, 117, 118, 119, 120, 121, 122, 123, 124, 125, 126, 127, 128, 129, 130, 131, 132, 133, 134, 135, 136, 137, 138, 139, 140, 141, 142, 143, 144, 145, 146, 147, 148, 149, 150, 151, 152, 153, 154, 155, 156, 157] (by decide +kernel) (by decide +kernel)
set_option maxRecDepth 20000 in
theorem gX10_elements_X10_bit : GoodIn wsX10_elements (wsV RX10 231 RX10 yX10_bit wsX10_bit) := goodIn_app (goodIn_of _ (by decide +kernel)) ggX10_elements_X10_bit
set_option maxRecDepth 20000 in
theorem ggX10_elements_X10_fails : GoodIn wsX10_elements wsX10_fails := goodIn_r _ [26, 27, 28, 112, 113, 114, 115, 116, 117, 118, 119, 120, 121, 122, 123, 124, 125, 126, 127, 128, 129, 130, 131, 132, 133, 134, 135, 136, 137, 138, 139, 140, 141, 142, 143, 144, 145, 146, 147, 148, 149, 150, 151, 152, 153, 154, 155, 156, 157] (by decide +kernel) (by decide +kernel)
set_option maxRecDepth 20000 in
theorem gX10_elements_X10_fails : GoodIn wsX10_elements (wsV RX10 151 RX10 yX10_fails wsX10_fails) := goodIn_app (goodIn_of _ (by decide +kernel)) ggX10_elements_X10_fails
set_option maxRecDepth 20000 in
theorem ggX10_elements_X10_sortOf : GoodIn wsX10_elements wsX10_sortOf := goodIn_r _ [62, 1, 112, 113, 114, 115, 116, 117, 118, 119, 120, 121, 122, 123, 124, 125, 126, 127, 128, 129, 130, 131, 132, 133, 134, 135, 136, 137, 138, 139, 140, 141, 142, 143, 144, 145, 146, 147, 148, 149, 150, 151, 152, 153, 154, 155, 156, 157] (by decide +kernel) (by decide +kernel)
set_option maxRecDepth 20000 in
theorem gX10_elements_X10_sortOf : GoodIn wsX10_elements (wsV RX10 234 RX10 yX10_sortOf wsX10_sortOf) := goodIn_app (goodIn_of _ (by decide +kernel)) ggX10_elements_X10_sortOf
set_option maxRecDepth 20000 in
theorem ggX10_elements_X10_plain : GoodIn wsX10_elements wsX10_plain := goodIn_r _ [66, 67, 1, 68, 69, 70, 71, 72, 3, 7, 73, 5, 74, 75, 76, 77, 12, 78, 79, 80, 81, 82, 49, 83, 14, 15, 16, 17, 18, 23, 24, 25, 26, 27, 28, 84, 85, 86, 87, 88, 89, 90, 91, 92, 93, 94, 95, 96, 97, 98, 99, 29, 30, 31, 51, 52, 53, 54, 100, 101, 102, 103, 104, 112, 113, 114, 115, 116, 117, 118, 119, 120, 121, 122, 123, 124, 125, 126, 127, 128, 129, 130, 131, 132, 133, 134, 135, 136, 137, 138, 139, 140, 141, 142, 143, 144, 145, 146, 147, 148, 149, 150, 151, 152, 153, 154, 155, 156, 157] (by decide +kernel) (by decide +kernel)
set_option maxRecDepth 20000 in
theorem gX10_elements_X10_plain : GoodIn wsX10_elements (wsV RX10 237 RX10 yX10_plain wsX10_plain) := goodIn_app (goodIn_of _ (by decide +kernel)) ggX10_elements_X10_plain
set_option maxRecDepth 20000 in
theorem ggX10_elements_X10_elements : GoodIn wsX10_elements wsX10_elements := goodIn_r _ [0, 1, 2, 3, 4, 5, 6, 7, 8, 9, 10, 11, 12, 13, 14, 15, 16, 17, 18, 19, 20, 21, 22, 23, 24, 25, 26, 27, 28, 29, 30, 31, 32, 33, 34, 35, 36, 37, 38, 39, 40, 41, 42, 43, 44, 45, 46, 47, 48, 49, 50, 51, 52, 53, 54, 55, 56, 57, 58, 59, 60, 61, 62, 63, 64, 65, 66, 67, 68, 69, 70, 71, 72, 73, 74, 75, 76, 77, 78, 79, 80, 81, 82, 83, 84, 85, 86, 87, 88, 89, 90, 91, 92, 93, 94, 95, 96, 97, 98, 99, 100, 101, 102, 103, 104, 105, 106, 107, 108, 109, 110, 111, 112, 113, 114, 115, 116, 117, 118, 119, 120, 121, 122, 123, 124, 125, 126, 127, 128, 129, 130, 131, 132, 133, 134, 135, 136, 137, 138, 139, 140, 141, 142, 143, 144, 145, 146, 147, 148, 149, 150, 151, 152, 153, 154, 155, 156, 157] (by decide +kernel) (by decide +kernel)
set_option maxRecDepth 20000 in
theorem gX10_elements_X10_elements : GoodIn wsX10_elements (wsV RX10 246 RX10 yX10_elements wsX10_elements) := goodIn_app (goodIn_of _ (by decide +kernel)) ggX10_elements_X10_elements
set_option maxRecDepth 20000 in
theorem ggX10_elements_X10_has : GoodIn wsX10_elements wsX10_has := goodIn_r _ [111, 5, 23, 24, 25, 12, 26, 27, 28, 112, 113, 114, 115, 116, 117, 118, 119, 120, 121, 122, 123, 124, 125, 126, 127, 128, 129, 130, 131, 132, 133, 134, 135, 136, 137, 138, 139, 140, 141, 142, 143, 144, 145, 146, 147, 148, 149, 150, 151, 152, 153, 154, 155, 156, 157] (by decide +kernel) (by decide +kernel)
set_option maxRecDepth 20000 in
theorem gX10_elements_X10_has : GoodIn wsX10_elements (wsV RX10 253 RX10 yX10_has wsX10_has) := goodIn_app (goodIn_of _ (by decide +kernel)) ggX10_elements_X10_has
set_option maxRecDepth 20000 in
theorem ggX10_isCluster_X10_at : GoodIn wsX10_isCluster wsX10_at := goodIn_r _ [5, 6, 7, 8, 9, 10, 11, 12, 13, 14, 15, 16, 17, 18, 19, 20, 21, 22, 23, 24, 25, 26, 27, 28, 29, 30, 31, 32, 33, 34, 35, 36, 37, 38, 39, 40, 41, 42, 43, 44, 45, 46, 47, 48, 49, 50, 51, 52] (by decide +kernel) (by decide +kernel)
set_option maxRecDepth 20000 in
theorem gX10_isCluster_X10_at : GoodIn wsX10_isCluster (wsV RX10 125 RX10 yX10_at wsX10_at) := goodIn_app (goodIn_of _ (by decide +kernel)) ggX10_isCluster_X10_at
set_option maxRecDepth 20000 in
theorem ggX10_has_X10_fails : GoodIn wsX10_has wsX10_fails := goodIn_r _ [6, 7, 8, 9, 10, 11, 12, 13, 14, 15, 16, 17, 18, 19, 20, 21, 22, 23, 24, 25, 26, 27, 28, 29, 30, 31, 32, 33, 34, 35, 36, 37, 38, 39, 40, 41, 42, 43, 44, 45, 46, 47, 48, 49, 50, 51, 52, 53, 54] (by decide +kernel) (by decide +kernel)
set_option maxRecDepth 20000 in
theorem gX10_has_X10_fails : GoodIn wsX10_has (wsV RX10 151 RX10 yX10_fails wsX10_fails) := goodIn_app (goodIn_of _ (by decide +kernel)) ggX10_has_X10_fails
set_option maxRecDepth 20000 in
theorem ggX10_uint_X10_at : GoodIn wsX10_uint wsX10_at := goodIn_r _ [9, 10, 11, 12, 13, 14, 15, 16, 17, 18, 19, 20, 21, 22, 23, 24, 25, 26, 27, 28, 29, 30, 31, 32, 33, 34, 35, 36, 37, 38, 39, 40, 41, 42, 43, 44, 45, 46, 47, 48, 49, 50, 51, 52, 53, 54, 55, 56] (by decide +kernel) (by decide +kernel)
set_option maxRecDepth 20000 in
theorem gX10_uint_X10_at : GoodIn wsX10_uint (wsV RX10 125 RX10 yX10_at wsX10_at) := goodIn_app (goodIn_of _ (by decide +kernel)) ggX10_uint_X10_at
set_option maxRecDepth 20000 in
theorem ggX10_isWithin_X10_uint : GoodIn wsX10_isWithin wsX10_uint := goodIn_r _ [5, 6, 7, 8, 9, 10, 11, 12, 4, 13, 14, 21, 22, 23, 24, 25, 26, 27, 28, 29, 30, 31, 32, 33, 34, 35, 36, 37, 38, 39, 40, 41, 42, 43, 44, 45, 46, 47, 48, 49, 50, 51, 52, 53, 54, 55, 56, 57, 58, 59, 60, 61, 62, 63, 64, 65, 66] (by decide +kernel) (by decide +kernel)
set_option maxRecDepth 20000 in
theorem gX10_isWithin_X10_uint : GoodIn wsX10_isWithin (wsV RX10 258 RX10 yX10_uint wsX10_uint) := goodIn_app (goodIn_of _ (by decide +kernel)) ggX10_isWithin_X10_uint
set_option maxRecDepth 20000 in
theorem ggX10_isWithin_X10_fails : GoodIn wsX10_isWithin wsX10_fails := goodIn_r _ [18, 19, 20, 21, 22, 23, 24, 25, 26, 27, 28, 29, 30, 31, 32, 33, 34, 35, 36, 37, 38, 39, 40, 41, 42, 43, 44, 45, 46, 47, 48, 49, 50, 51, 52, 53, 54, 55, 56, 57, 58, 59, 60, 61, 62, 63, 64, 65, 66] (by decide +kernel) (by decide +kernel)
set_option maxRecDepth 20000 in
theorem gX10_isWithin_X10_fails : GoodIn wsX10_isWithin (wsV RX10 151 RX10 yX10_fails wsX10_fails) := goodIn_app (goodIn_of _ (by decide +kernel)) ggX10_isWithin_X10_fails
set_option maxRecDepth 20000 in
theorem ggX10_plain_X10_isWithin : GoodIn wsX10_plain wsX10_isWithin := goodIn_r _ [17, 18, 19, 20, 16, 21, 8, 9, 22, 23, 24, 25, 26, 27, 28, 29, 30, 31, 32, 33, 34, 63, 64, 65, 66, 67, 68, 69, 70, 71, 72, 73, 74, 75, 76, 77, 78, 79, 80, 81, 82, 83, 84, 85, 86, 87, 88, 89, 90, 91, 92, 93, 94, 95, 96, 97, 98, 99, 100, 101, 102, 103, 104, 105, 106, 107, 108] (by decide +kernel) (by decide +kernel)
set_option maxRecDepth 20000 in
theorem gX10_plain_X10_isWithin : GoodIn wsX10_plain (wsV RX10 264 RX10 yX10_isWithin wsX10_isWithin) := goodIn_app (goodIn_of _ (by decide +kernel)) ggX10_plain_X10_isWithin
set_option maxRecDepth 20000 in
theorem ggX10_plain_X10_isMatroska : GoodIn wsX10_plain wsX10_isMatroska := goodIn_r _ [38, 9, 8, 39, 24, 25, 26, 16, 27, 28, 63, 64, 65, 66, 67, 68, 69, 70, 71, 72, 73, 74, 75, 76, 77, 78, 79, 80, 81, 82, 83, 84, 85, 86, 87, 88, 89, 90, 91, 92, 93, 94, 95, 96, 97, 98, 99, 100, 101, 102, 103, 104, 105, 106, 107, 108] (by decide +kernel) (by decide +kernel)
set_option maxRecDepth 20000 in
theorem gX10_plain_X10_isMatroska : GoodIn wsX10_plain (wsV RX10 272 RX10 yX10_isMatroska wsX10_isMatroska) := goodIn_app (goodIn_of _ (by decide +kernel)) ggX10_plain_X10_isMatroska
set_option maxRecDepth 20000 in
theorem ggX10_plain_X10_fails : GoodIn wsX10_plain wsX10_fails := goodIn_r _ [32, 33, 34, 63, 64, 65, 66, 67, 68, 69, 70, 71, 72, 73, 74, 75, 76, 77, 78, 79, 80, 81, 82, 83, 84, 85, 86, 87, 88, 89, 90, 91, 92, 93, 94, 95, 96, 97, 98, 99, 100, 101, 102, 103, 104, 105, 106, 107, 108] (by decide +kernel) (by decide +kernel)
set_option maxRecDepth 20000 in
theorem gX10_plain_X10_fails : GoodIn wsX10_plain (wsV RX10 151 RX10 yX10_fails wsX10_fails) := goodIn_app (goodIn_of _ (by decide +kernel)) ggX10_plain_X10_fails
set_option maxRecDepth 20000 in
theorem ggX10_plain_X10_uint : GoodIn wsX10_plain wsX10_uint := goodIn_r _ [21, 8, 9, 22, 23, 24, 25, 26, 16, 27, 28, 63, 64, 65, 66, 67, 68, 69, 70, 71, 72, 73, 74, 75, 76, 77, 78, 79, 80, 81, 82, 83, 84, 85, 86, 87, 88, 89, 90, 91, 92, 93, 94, 95, 96, 97, 98, 99, 100, 101, 102, 103, 104, 105, 106, 107, 108] (by decide +kernel) (by decide +kernel)
set_option maxRecDepth 20000 in
theorem gX10_plain_X10_uint : GoodIn wsX10_plain (wsV RX10 258 RX10 yX10_uint wsX10_uint) := goodIn_app (goodIn_of _ (by decide +kernel)) ggX10_plain_X10_uint
set_option maxRecDepth 20000 in
theorem ggX10_plain_X10_block : GoodIn wsX10_plain wsX10_block := goodIn_r _ [43, 11, 44, 9, 8, 5, 10, 2, 12, 45, 46, 47, 48, 49, 22, 50, 28, 29, 30, 31, 16, 32, 33, 34, 24, 25, 26, 27, 51, 52, 53, 54, 55, 56, 57, 58, 59, 60, 61, 62, 63, 64, 65, 66, 67, 68, 69, 70, 71, 72, 73, 74, 75, 76, 77, 78, 79, 80, 81, 82, 83, 84, 85, 86, 87, 88, 89, 90, 91, 92, 93, 94, 95, 96, 97, 98, 99, 100, 101, 102, 103, 104, 105, 106, 107, 108] (by decide +kernel) (by decide +kernel)
set_option maxRecDepth 20000 in
theorem gX10_plain_X10_block : GoodIn wsX10_plain (wsV RX10 286 RX10 yX10_block wsX10_block) := goodIn_app (goodIn_of _ (by decide +kernel)) ggX10_plain_X10_block
set_option maxRecDepth 20000 in
theorem ggX10_isMatroska_X10_at : GoodIn wsX10_isMatroska wsX10_at := goodIn_r _ [8, 9, 10, 11, 12, 13, 14, 15, 16, 17, 18, 19, 20, 21, 22, 23, 24, 25, 26, 27, 28, 29, 30, 31, 32, 33, 34, 35, 36, 37, 38, 39, 40, 41, 42, 43, 44, 45, 46, 47, 48, 49, 50, 51, 52, 53, 54, 55] (by decide +kernel) (by decide +kernel)
set_option maxRecDepth 20000 in
theorem gX10_isMatroska_X10_at : GoodIn wsX10_isMatroska (wsV RX10 125 RX10 yX10_at wsX10_at) := goodIn_app (goodIn_of _ (by decide +kernel)) ggX10_isMatroska_X10_at
set_option maxRecDepth 20000 in
theorem ggX10_block_X10_fails : GoodIn wsX10_block wsX10_fails := goodIn_r _ [21, 22, 23, 40, 41, 42, 43, 44, 45, 46, 47, 48, 49, 50, 51, 52, 53, 54, 55, 56, 57, 58, 59, 60, 61, 62, 63, 64, 65, 66, 67, 68, 69, 70, 71, 72, 73, 74, 75, 76, 77, 78, 79, 80, 81, 82, 83, 84, 85] (by decide +kernel) (by decide +kernel)
set_option maxRecDepth 20000 in
theorem gX10_block_X10_fails : GoodIn wsX10_block (wsV RX10 151 RX10 yX10_fails wsX10_fails) := goodIn_app (goodIn_of _ (by decide +kernel)) ggX10_block_X10_fails
set_option maxRecDepth 20000 in
theorem ggX10_block_X10_at : GoodIn wsX10_block wsX10_at := goodIn_r _ [27, 16, 40, 41, 42, 43, 44, 45, 46, 47, 48, 49, 50, 51, 52, 53, 54, 55, 56, 57, 58, 59, 60, 61, 62, 63, 64, 65, 66, 67, 68, 69, 70, 71, 72, 73, 74, 75, 76, 77, 78, 79, 80, 81, 82, 83, 84, 85] (by decide +kernel) (by decide +kernel)
set_option maxRecDepth 20000 in
theorem gX10_block_X10_at : GoodIn wsX10_block (wsV RX10 125 RX10 yX10_at wsX10_at) := goodIn_app (goodIn_of _ (by decide +kernel)) ggX10_block_X10_at
set_option maxRecDepth 20000 in
theorem ggX10_block_X10_lengthBy : GoodIn wsX10_block wsX10_lengthBy := goodIn_r _ [30] (by decide +kernel) (by decide +kernel)
set_option maxRecDepth 20000 in
theorem gX10_block_X10_lengthBy : GoodIn wsX10_block (va_wsS RX10 188 yX10_lengthBy wsX10_lengthBy) := goodIn_app (goodIn_of _ (by decide +kernel)) ggX10_block_X10_lengthBy
set_option maxRecDepth 20000 in
theorem ggX10_block_X10_sizeAt : GoodIn wsX10_block wsX10_sizeAt := goodIn_r _ [34, 14, 24, 25, 26, 20, 27, 16, 40, 41, 42, 43, 44, 45, 46, 47, 48, 49, 50, 51, 52, 53, 54, 55, 56, 57, 58, 59, 60, 61, 62, 63, 64, 65, 66, 67, 68, 69, 70, 71, 72, 73, 74, 75, 76, 77, 78, 79, 80, 81, 82, 83, 84, 85] (by decide +kernel) (by decide +kernel)
set_option maxRecDepth 20000 in
theorem gX10_block_X10_sizeAt : GoodIn wsX10_block (wsV RX10 200 RX10 yX10_sizeAt wsX10_sizeAt) := goodIn_app (goodIn_of _ (by decide +kernel)) ggX10_block_X10_sizeAt
set_option maxRecDepth 20000 in
theorem ggX10_block_X10_laced : GoodIn wsX10_block wsX10_laced := goodIn_r _ [38, 4, 9, 14, 39, 24, 25, 26, 20, 27, 16, 28, 29, 30, 31, 32, 33, 34, 40, 41, 42, 43, 44, 45, 46, 47, 48, 49, 50, 51, 52, 53, 54, 55, 56, 57, 58, 59, 60, 61, 62, 63, 64, 65, 66, 67, 68, 69, 70, 71, 72, 73, 74, 75, 76, 77, 78, 79, 80, 81, 82, 83, 84, 85] (by decide +kernel) (by decide +kernel)
set_option maxRecDepth 20000 in
theorem gX10_block_X10_laced : GoodIn wsX10_block (wsV RX10 294 RX10 yX10_laced wsX10_laced) := goodIn_app (goodIn_of _ (by decide +kernel)) ggX10_block_X10_laced
set_option maxRecDepth 20000 in
theorem ggX10_laced_X10_at : GoodIn wsX10_laced wsX10_at := goodIn_r _ [9, 10, 18, 19, 20, 21, 22, 23, 24, 25, 26, 27, 28, 29, 30, 31, 32, 33, 34, 35, 36, 37, 38, 39, 40, 41, 42, 43, 44, 45, 46, 47, 48, 49, 50, 51, 52, 53, 54, 55, 56, 57, 58, 59, 60, 61, 62, 63] (by decide +kernel) (by decide +kernel)
set_option maxRecDepth 20000 in
theorem gX10_laced_X10_at : GoodIn wsX10_laced (wsV RX10 125 RX10 yX10_at wsX10_at) := goodIn_app (goodIn_of _ (by decide +kernel)) ggX10_laced_X10_at
set_option maxRecDepth 20000 in
theorem ggX10_laced_X10_lengthBy : GoodIn wsX10_laced wsX10_lengthBy := goodIn_r _ [13] (by decide +kernel) (by decide +kernel)
set_option maxRecDepth 20000 in
theorem gX10_laced_X10_lengthBy : GoodIn wsX10_laced (va_wsS RX10 188 yX10_lengthBy wsX10_lengthBy) := goodIn_app (goodIn_of _ (by decide +kernel)) ggX10_laced_X10_lengthBy
set_option maxRecDepth 20000 in
theorem ggX10_laced_X10_sizeAt : GoodIn wsX10_laced wsX10_sizeAt := goodIn_r _ [17, 3, 5, 6, 7, 8, 9, 10, 18, 19, 20, 21, 22, 23, 24, 25, 26, 27, 28, 29, 30, 31, 32, 33, 34, 35, 36, 37, 38, 39, 40, 41, 42, 43, 44, 45, 46, 47, 48, 49, 50, 51, 52, 53, 54, 55, 56, 57, 58, 59, 60, 61, 62, 63] (by decide +kernel) (by decide +kernel)
set_option maxRecDepth 20000 in
theorem gX10_laced_X10_sizeAt : GoodIn wsX10_laced (wsV RX10 200 RX10 yX10_sizeAt wsX10_sizeAt) := goodIn_app (goodIn_of _ (by decide +kernel)) ggX10_laced_X10_sizeAt
set_option maxRecDepth 20000 in
theorem ggX10_readElements_X10_begin : GoodIn wsX10_readElements wsX10_begin := goodIn_r _ [10, 11, 12, 13, 14, 135, 136, 137, 138, 139, 140, 141, 142, 143, 144, 145, 146, 147, 148, 149, 150, 151, 152, 153, 154, 155, 156, 157, 158, 159, 160, 161, 162, 163, 164, 165, 166, 167, 168, 169, 170, 171, 172, 173, 174, 175, 176, 177, 178, 179, 180] (by decide +kernel) (by decide +kernel)
set_option maxRecDepth 20000 in
theorem gX10_readElements_X10_begin : GoodIn wsX10_readElements (wsV RX10 135 RX10 yX10_begin wsX10_begin) := goodIn_app (goodIn_of _ (by decide +kernel)) ggX10_readElements_X10_begin
set_option maxRecDepth 20000 in
theorem ggX10_readElements_X10_elements : GoodIn wsX10_readElements wsX10_elements := goodIn_r _ [18, 19, 20, 21, 22, 23, 2, 24, 25, 26, 27, 28, 9, 29, 30, 31, 32, 33, 34, 35, 36, 37, 38, 39, 40, 41, 42, 11, 12, 43, 44, 45, 46, 47, 48, 49, 50, 51, 52, 53, 54, 55, 56, 57, 58, 59, 60, 61, 62, 63, 64, 65, 66, 67, 68, 69, 70, 71, 72, 73, 74, 75, 76, 77, 78, 79, 80, 81, 82, 83, 84, 85, 86, 87, 88, 89, 90, 91, 92, 93, 94, 95, 96, 97, 98, 99, 100, 101, 102, 103, 104, 105, 106, 3, 107, 13, 14, 108, 109, 110, 111, 112, 113, 114, 115, 15, 16, 17, 116, 117, 118, 119, 135, 136, 137, 138, 139, 140, 141, 142, 143, 144, 145, 146, 147, 148, 149, 150, 151, 152, 153, 154, 155, 156, 157, 158, 159, 160, 161, 162, 163, 164, 165, 166, 167, 168, 169, 170, 171, 172, 173, 174, 175, 176, 177, 178, 179, 180] (by decide +kernel) (by decide +kernel)
set_option maxRecDepth 20000 in
theorem gX10_readElements_X10_elements : GoodIn wsX10_readElements (wsV RX10 246 RX10 yX10_elements wsX10_elements) := goodIn_app (goodIn_of _ (by decide +kernel)) ggX10_readElements_X10_elements
set_option maxRecDepth 20000 in
theorem ggX10_readElements_X10_ends : GoodIn wsX10_readElements wsX10_ends := goodIn_r _ [123, 11, 124, 12, 125, 126, 127, 128, 129, 9, 130, 13, 14, 131, 132, 108, 133, 109, 134, 110, 135, 136, 137, 138, 139, 140, 141, 142, 143, 144, 145, 146, 147, 148, 149, 150, 151, 152, 153, 154, 155, 156, 157, 158, 159, 160, 161, 162, 163, 164, 165, 166, 167, 168, 169, 170, 171, 172, 173, 174, 175, 176, 177, 178, 179, 180] (by decide +kernel) (by decide +kernel)
set_option maxRecDepth 20000 in
theorem gX10_readElements_X10_ends : GoodIn wsX10_readElements (wsV RX10 164 RX10 yX10_ends wsX10_ends) := goodIn_app (goodIn_of _ (by decide +kernel)) ggX10_readElements_X10_ends
set_option maxRecDepth 20000 in
theorem ggX10_putSize_X10_sizeLength : GoodIn wsX10_putSize wsX10_sizeLength := goodIn_r _ [4] (by decide +kernel) (by decide +kernel)
set_option maxRecDepth 20000 in
theorem gX10_putSize_X10_sizeLength : GoodIn wsX10_putSize (va_wsS RX10 306 yX10_sizeLength wsX10_sizeLength) := goodIn_app (goodIn_of _ (by decide +kernel)) ggX10_putSize_X10_sizeLength
set_option maxRecDepth 20000 in
theorem ggX10_putSize_X10_putHigh : GoodIn wsX10_putSize wsX10_putHigh := goodIn_r _ [8, 9, 10, 11, 3, 12, 13, 14, 15, 16, 17, 18, 19, 20, 21, 22, 23, 24, 25, 26, 27, 28, 29, 30, 31, 32, 33, 34, 35, 36, 37, 38, 39, 40, 41, 42, 43, 44, 45, 46, 47, 48, 49, 50, 51, 52, 53, 54, 55, 56, 57, 58, 59, 60, 61] (by decide +kernel) (by decide +kernel)
set_option maxRecDepth 20000 in
theorem gX10_putSize_X10_putHigh : GoodIn wsX10_putSize (wsV RX10 310 RX10 yX10_putHigh wsX10_putHigh) := goodIn_app (goodIn_of _ (by decide +kernel)) ggX10_putSize_X10_putHigh
set_option maxRecDepth 20000 in
theorem ggX10_later_X10_put : GoodIn wsX10_later wsX10_put := goodIn_r _ [6, 1, 7, 8, 13, 14, 15, 16, 17, 18, 19, 20, 21, 22, 23, 24, 25, 26, 27, 28, 29, 30, 31, 32, 33, 34, 35, 36, 37, 38, 39, 40, 41, 42, 43, 44, 45, 46, 47, 48, 49, 50, 51, 52, 53, 54, 55, 56, 57, 58] (by decide +kernel) (by decide +kernel)
set_option maxRecDepth 20000 in
theorem gX10_later_X10_put : GoodIn wsX10_later (wsV RX10 88 RX10 yX10_put wsX10_put) := goodIn_app (goodIn_of _ (by decide +kernel)) ggX10_later_X10_put
set_option maxRecDepth 20000 in
theorem ggX10_later_X10_putHigh : GoodIn wsX10_later wsX10_putHigh := goodIn_r _ [12, 2, 3, 4, 5, 6, 1, 7, 8, 13, 14, 15, 16, 17, 18, 19, 20, 21, 22, 23, 24, 25, 26, 27, 28, 29, 30, 31, 32, 33, 34, 35, 36, 37, 38, 39, 40, 41, 42, 43, 44, 45, 46, 47, 48, 49, 50, 51, 52, 53, 54, 55, 56, 57, 58] (by decide +kernel) (by decide +kernel)
set_option maxRecDepth 20000 in
theorem gX10_later_X10_putHigh : GoodIn wsX10_later (wsV RX10 310 RX10 yX10_putHigh wsX10_putHigh) := goodIn_app (goodIn_of _ (by decide +kernel)) ggX10_later_X10_putHigh
set_option maxRecDepth 20000 in
theorem ggX10_elements__X10_putRow : GoodIn wsX10_elements_ wsX10_putRow := goodIn_r _ [15, 16, 17, 18, 14, 19, 1, 2, 20, 62, 63, 64, 65, 66, 67, 68, 69, 70, 71, 72, 73, 74, 75, 76, 77, 78, 79, 80, 81, 82, 83, 84, 85, 86, 87, 88, 89, 90, 91, 92, 93, 94, 95, 96, 97, 98, 99, 100, 101, 102, 103, 104, 105, 106, 107] (by decide +kernel) (by decide +kernel)
set_option maxRecDepth 20000 in
theorem gX10_elements__X10_putRow : GoodIn wsX10_elements_ (wsV RX10 314 RX10 yX10_putRow wsX10_putRow) := goodIn_app (goodIn_of _ (by decide +kernel)) ggX10_elements__X10_putRow
set_option maxRecDepth 20000 in
theorem ggX10_elements__X10_putHigh : GoodIn wsX10_elements_ wsX10_putHigh := goodIn_r _ [24, 16, 17, 18, 14, 19, 1, 2, 20, 62, 63, 64, 65, 66, 67, 68, 69, 70, 71, 72, 73, 74, 75, 76, 77, 78, 79, 80, 81, 82, 83, 84, 85, 86, 87, 88, 89, 90, 91, 92, 93, 94, 95, 96, 97, 98, 99, 100, 101, 102, 103, 104, 105, 106, 107] (by decide +kernel) (by decide +kernel)
set_option maxRecDepth 20000 in
theorem gX10_elements__X10_putHigh : GoodIn wsX10_elements_ (wsV RX10 310 RX10 yX10_putHigh wsX10_putHigh) := goodIn_app (goodIn_of _ (by decide +kernel)) ggX10_elements__X10_putHigh
set_option maxRecDepth 20000 in
theorem ggX10_elements__X10_later : GoodIn wsX10_elements_ wsX10_later := goodIn_r _ [28, 1, 16, 17, 18, 14, 19, 2, 20, 21, 22, 23, 24, 62, 63, 64, 65, 66, 67, 68, 69, 70, 71, 72, 73, 74, 75, 76, 77, 78, 79, 80, 81, 82, 83, 84, 85, 86, 87, 88, 89, 90, 91, 92, 93, 94, 95, 96, 97, 98, 99, 100, 101, 102, 103, 104, 105, 106, 107] (by decide +kernel) (by decide +kernel)
set_option maxRecDepth 20000 in
theorem gX10_elements__X10_later : GoodIn wsX10_elements_ (wsV RX10 320 RX10 yX10_later wsX10_later) := goodIn_app (goodIn_of _ (by decide +kernel)) ggX10_elements__X10_later
set_option maxRecDepth 20000 in
theorem ggX10_elements__X10_put : GoodIn wsX10_elements_ wsX10_put := goodIn_r _ [19, 1, 2, 20, 62, 63, 64, 65, 66, 67, 68, 69, 70, 71, 72, 73, 74, 75, 76, 77, 78, 79, 80, 81, 82, 83, 84, 85, 86, 87, 88, 89, 90, 91, 92, 93, 94, 95, 96, 97, 98, 99, 100, 101, 102, 103, 104, 105, 106, 107] (by decide +kernel) (by decide +kernel)
set_option maxRecDepth 20000 in
theorem gX10_elements__X10_put : GoodIn wsX10_elements_ (wsV RX10 88 RX10 yX10_put wsX10_put) := goodIn_app (goodIn_of _ (by decide +kernel)) ggX10_elements__X10_put
set_option maxRecDepth 20000 in
theorem ggX10_elements__X10_timeOf : GoodIn wsX10_elements_ wsX10_timeOf := goodIn_r _ [32, 33, 34, 62, 63, 64, 65, 66, 67, 68, 69, 70, 71, 72, 73, 74, 75, 76, 77, 78, 79, 80, 81, 82, 83, 84, 85, 86, 87, 88, 89, 90, 91, 92, 93, 94, 95, 96, 97, 98, 99, 100, 101, 102, 103, 104, 105, 106, 107] (by decide +kernel) (by decide +kernel)
set_option maxRecDepth 20000 in
theorem gX10_elements__X10_timeOf : GoodIn wsX10_elements_ (wsV RX10 99 RX10 yX10_timeOf wsX10_timeOf) := goodIn_app (goodIn_of _ (by decide +kernel)) ggX10_elements__X10_timeOf
set_option maxRecDepth 20000 in
theorem ggX10_elements__X10_tell : GoodIn wsX10_elements_ wsX10_tell := goodIn_r _ [38, 2, 1, 39, 20, 62, 63, 64, 65, 66, 67, 68, 69, 70, 71, 72, 73, 74, 75, 76, 77, 78, 79, 80, 81, 82, 83, 84, 85, 86, 87, 88, 89, 90, 91, 92, 93, 94, 95, 96, 97, 98, 99, 100, 101, 102, 103, 104, 105, 106, 107] (by decide +kernel) (by decide +kernel)
set_option maxRecDepth 20000 in
theorem gX10_elements__X10_tell : GoodIn wsX10_elements_ (wsV RX10 324 RX10 yX10_tell wsX10_tell) := goodIn_app (goodIn_of _ (by decide +kernel)) ggX10_elements__X10_tell
set_option maxRecDepth 20000 in
theorem ggX10_elements__X10_putBlock : GoodIn wsX10_elements_ wsX10_putBlock := goodIn_r _ [43, 44, 10, 45, 46, 47, 14, 48, 49, 50, 51, 16, 17, 18, 19, 1, 2, 20, 52, 53, 54, 55, 21, 22, 23, 24, 62, 63, 64, 65, 66, 67, 68, 69, 70, 71, 72, 73, 74, 75, 76, 77, 78, 79, 80, 81, 82, 83, 84, 85, 86, 87, 88, 89, 90, 91, 92, 93, 94, 95, 96, 97, 98, 99, 100, 101, 102, 103, 104, 105, 106, 107] (by decide +kernel) (by decide +kernel)
set_option maxRecDepth 20000 in
theorem gX10_elements__X10_putBlock : GoodIn wsX10_elements_ (wsV RX10 330 RX10 yX10_putBlock wsX10_putBlock) := goodIn_app (goodIn_of _ (by decide +kernel)) ggX10_elements__X10_putBlock
set_option maxRecDepth 20000 in
theorem ggX10_elements__X10_drawn : GoodIn wsX10_elements_ wsX10_drawn := goodIn_r _ [59, 2, 1, 60, 20, 61, 62, 63, 64, 65, 66, 67, 68, 69, 70, 71, 72, 73, 74, 75, 76, 77, 78, 79, 80, 81, 82, 83, 84, 85, 86, 87, 88, 89, 90, 91, 92, 93, 94, 95, 96, 97, 98, 99, 100, 101, 102, 103, 104, 105, 106, 107] (by decide +kernel) (by decide +kernel)
set_option maxRecDepth 20000 in
theorem gX10_elements__X10_drawn : GoodIn wsX10_elements_ (wsV RX10 115 RX10 yX10_drawn wsX10_drawn) := goodIn_app (goodIn_of _ (by decide +kernel)) ggX10_elements__X10_drawn
set_option maxRecDepth 20000 in
theorem ggX10_putBlock_X10_sizeLength : GoodIn wsX10_putBlock wsX10_sizeLength := goodIn_r _ [7] (by decide +kernel) (by decide +kernel)
set_option maxRecDepth 20000 in
theorem gX10_putBlock_X10_sizeLength : GoodIn wsX10_putBlock (va_wsS RX10 306 yX10_sizeLength wsX10_sizeLength) := goodIn_app (goodIn_of _ (by decide +kernel)) ggX10_putBlock_X10_sizeLength
set_option maxRecDepth 20000 in
theorem ggX10_putBlock_X10_signedLength : GoodIn wsX10_putBlock wsX10_signedLength := goodIn_r _ [10] (by decide +kernel) (by decide +kernel)
set_option maxRecDepth 20000 in
theorem gX10_putBlock_X10_signedLength : GoodIn wsX10_putBlock (va_wsS RX10 334 yX10_signedLength wsX10_signedLength) := goodIn_app (goodIn_of _ (by decide +kernel)) ggX10_putBlock_X10_signedLength
set_option maxRecDepth 20000 in
theorem ggX10_putBlock_X10_put : GoodIn wsX10_putBlock wsX10_put := goodIn_r _ [14, 15, 16, 17, 26, 27, 28, 29, 30, 31, 32, 33, 34, 35, 36, 37, 38, 39, 40, 41, 42, 43, 44, 45, 46, 47, 48, 49, 50, 51, 52, 53, 54, 55, 56, 57, 58, 59, 60, 61, 62, 63, 64, 65, 66, 67, 68, 69, 70, 71] (by decide +kernel) (by decide +kernel)
set_option maxRecDepth 20000 in
theorem gX10_putBlock_X10_put : GoodIn wsX10_putBlock (wsV RX10 88 RX10 yX10_put wsX10_put) := goodIn_app (goodIn_of _ (by decide +kernel)) ggX10_putBlock_X10_put
set_option maxRecDepth 20000 in
theorem ggX10_putBlock_X10_putSize : GoodIn wsX10_putBlock wsX10_putSize := goodIn_r _ [21, 4, 5, 6, 7, 22, 23, 24, 25, 11, 12, 13, 14, 15, 16, 17, 26, 27, 28, 29, 30, 31, 32, 33, 34, 35, 36, 37, 38, 39, 40, 41, 42, 43, 44, 45, 46, 47, 48, 49, 50, 51, 52, 53, 54, 55, 56, 57, 58, 59, 60, 61, 62, 63, 64, 65, 66, 67, 68, 69, 70, 71] (by decide +kernel) (by decide +kernel)
set_option maxRecDepth 20000 in
theorem gX10_putBlock_X10_putSize : GoodIn wsX10_putBlock (wsV RX10 337 RX10 yX10_putSize wsX10_putSize) := goodIn_app (goodIn_of _ (by decide +kernel)) ggX10_putBlock_X10_putSize
set_option maxRecDepth 20000 in
theorem ggX10_putBlock_X10_putHigh : GoodIn wsX10_putBlock wsX10_putHigh := goodIn_r _ [25, 11, 12, 13, 6, 14, 15, 16, 17, 26, 27, 28, 29, 30, 31, 32, 33, 34, 35, 36, 37, 38, 39, 40, 41, 42, 43, 44, 45, 46, 47, 48, 49, 50, 51, 52, 53, 54, 55, 56, 57, 58, 59, 60, 61, 62, 63, 64, 65, 66, 67, 68, 69, 70, 71] (by decide +kernel) (by decide +kernel)
set_option maxRecDepth 20000 in
theorem gX10_putBlock_X10_putHigh : GoodIn wsX10_putBlock (wsV RX10 310 RX10 yX10_putHigh wsX10_putHigh) := goodIn_app (goodIn_of _ (by decide +kernel)) ggX10_putBlock_X10_putHigh
set_option maxRecDepth 20000 in
theorem ggX10_sum_X10_isMark : GoodIn wsX10_sum wsX10_isMark := goodIn_r _ [7, 8, 9, 10, 6, 11, 2, 27, 28, 29, 30, 31, 32, 33, 34, 35, 36, 37, 38, 39, 40, 41, 42, 43, 44, 45, 46, 47, 48, 49, 50, 51, 52, 53, 54, 55, 56, 57, 58, 59, 60, 61, 62, 63, 64, 65, 66, 67, 68, 69, 70, 71, 72] (by decide +kernel) (by decide +kernel)
set_option maxRecDepth 20000 in
theorem gX10_sum_X10_isMark : GoodIn wsX10_sum (wsV RX10 167 RX10 yX10_isMark wsX10_isMark) := goodIn_app (goodIn_of _ (by decide +kernel)) ggX10_sum_X10_isMark
set_option maxRecDepth 20000 in
theorem ggX10_sum_X10_isWhole : GoodIn wsX10_sum wsX10_isWhole := goodIn_r _ [15, 8, 9, 10, 6, 11, 2, 16, 17, 18, 19, 27, 28, 29, 30, 31, 32, 33, 34, 35, 36, 37, 38, 39, 40, 41, 42, 43, 44, 45, 46, 47, 48, 49, 50, 51, 52, 53, 54, 55, 56, 57, 58, 59, 60, 61, 62, 63, 64, 65, 66, 67, 68, 69, 70, 71, 72] (by decide +kernel) (by decide +kernel)
set_option maxRecDepth 20000 in
theorem gX10_sum_X10_isWhole : GoodIn wsX10_sum (wsV RX10 171 RX10 yX10_isWhole wsX10_isWhole) := goodIn_app (goodIn_of _ (by decide +kernel)) ggX10_sum_X10_isWhole
set_option maxRecDepth 20000 in
theorem ggX10_sum_X10_lengthOf : GoodIn wsX10_sum wsX10_lengthOf := goodIn_r _ [19, 8, 9, 10, 6, 11, 2, 27, 28, 29, 30, 31, 32, 33, 34, 35, 36, 37, 38, 39, 40, 41, 42, 43, 44, 45, 46, 47, 48, 49, 50, 51, 52, 53, 54, 55, 56, 57, 58, 59, 60, 61, 62, 63, 64, 65, 66, 67, 68, 69, 70, 71, 72] (by decide +kernel) (by decide +kernel)
set_option maxRecDepth 20000 in
theorem gX10_sum_X10_lengthOf : GoodIn wsX10_sum (wsV RX10 158 RX10 yX10_lengthOf wsX10_lengthOf) := goodIn_app (goodIn_of _ (by decide +kernel)) ggX10_sum_X10_lengthOf
set_option maxRecDepth 20000 in
theorem ggX10_sum_X10_putSum : GoodIn wsX10_sum wsX10_putSum := goodIn_r _ [22, 23, 24, 6, 25, 26] (by decide +kernel) (by decide +kernel)
set_option maxRecDepth 20000 in
theorem gX10_sum_X10_putSum : GoodIn wsX10_sum (va_wsS RX10 111 yX10_putSum wsX10_putSum) := goodIn_app (goodIn_of _ (by decide +kernel)) ggX10_sum_X10_putSum
set_option maxRecDepth 20000 in
theorem ggJ0_length_8abf5_J0_coder_7d493 : GoodIn wsJ0_length_8abf5 wsJ0_coder_7d493 := goodIn_r _ [6, 7, 8] (by decide +kernel) (by decide +kernel)
set_option maxRecDepth 20000 in
theorem gJ0_length_8abf5_J0_coder_7d493 : GoodIn wsJ0_length_8abf5 (wsV RJ0 335 RJ0 yJ0_coder_7d493 wsJ0_coder_7d493) := goodIn_app (goodIn_of _ (by decide +kernel)) ggJ0_length_8abf5_J0_coder_7d493
set_option maxRecDepth 20000 in
theorem ggJ0_charAt_5068e_J0_isLatin1_aae02 : GoodIn wsJ0_charAt_5068e wsJ0_isLatin1_aae02 := goodIn_r _ [6, 7, 8] (by decide +kernel) (by decide +kernel)
set_option maxRecDepth 20000 in
theorem gJ0_charAt_5068e_J0_isLatin1_aae02 : GoodIn wsJ0_charAt_5068e (wsV RJ0 492 RJ0 yJ0_isLatin1_aae02 wsJ0_isLatin1_aae02) := goodIn_app (goodIn_of _ (by decide +kernel)) ggJ0_charAt_5068e_J0_isLatin1_aae02
set_option maxRecDepth 20000 in
theorem ggJ0_charAt_5068e_J1_charAt_3b067 : GoodIn wsJ0_charAt_5068e wsJ1_charAt_3b067 := goodIn_r _ [12, 13, 14, 5, 15, 16, 17, 18, 19, 20] (by decide +kernel) (by decide +kernel)
set_option maxRecDepth 20000 in
theorem gJ0_charAt_5068e_J1_charAt_3b067 : GoodIn wsJ0_charAt_5068e (va_wsS RJ0 495 yJ1_charAt_3b067 wsJ1_charAt_3b067) := goodIn_app (goodIn_of _ (by decide +kernel)) ggJ0_charAt_5068e_J1_charAt_3b067
set_option maxRecDepth 20000 in
theorem ggJ0_charAt_5068e_J2_charAt_3b067 : GoodIn wsJ0_charAt_5068e wsJ2_charAt_3b067 := goodIn_r _ [24, 25, 26, 23, 27, 28, 29, 30, 31, 14, 5, 15, 16, 17, 18, 19, 20, 32, 33, 34, 35, 36, 37] (by decide +kernel) (by decide +kernel)
set_option maxRecDepth 20000 in
theorem gJ0_charAt_5068e_J2_charAt_3b067 : GoodIn wsJ0_charAt_5068e (va_wsS RJ0 498 yJ2_charAt_3b067 wsJ2_charAt_3b067) := goodIn_app (goodIn_of _ (by decide +kernel)) ggJ0_charAt_5068e_J2_charAt_3b067
set_option maxRecDepth 20000 in
theorem ggJ0_checkIndex_df160_J3_checkIndex_8e157 : GoodIn wsJ0_checkIndex_df160 wsJ3_checkIndex_8e157 := goodIn_r _ [5] (by decide +kernel) (by decide +kernel)
set_option maxRecDepth 20000 in
theorem gJ0_checkIndex_df160_J3_checkIndex_8e157 : GoodIn wsJ0_checkIndex_df160 (va_wsS RJ0 1059 yJ3_checkIndex_8e157 wsJ3_checkIndex_8e157) := goodIn_app (goodIn_of _ (by decide +kernel)) ggJ0_checkIndex_df160_J3_checkIndex_8e157
set_option maxRecDepth 20000 in
theorem ggJ1_charAt_3b067_J0_checkIndex_df160 : GoodIn wsJ1_charAt_3b067 wsJ0_checkIndex_df160 := goodIn_r _ [4, 5, 6, 7, 8, 9] (by decide +kernel) (by decide +kernel)
set_option maxRecDepth 20000 in
theorem gJ1_charAt_3b067_J0_checkIndex_df160 : GoodIn wsJ1_charAt_3b067 (va_wsS RJ1 9 yJ0_checkIndex_df160 wsJ0_checkIndex_df160) := goodIn_app (goodIn_of _ (by decide +kernel)) ggJ1_charAt_3b067_J0_checkIndex_df160
set_option maxRecDepth 20000 in
theorem ggJ2_getChar_3b067_J2_length_9d52b : GoodIn wsJ2_getChar_3b067 wsJ2_length_9d52b := goodIn_r _ [7] (by decide +kernel) (by decide +kernel)
set_option maxRecDepth 20000 in
theorem gJ2_getChar_3b067_J2_length_9d52b : GoodIn wsJ2_getChar_3b067 (va_wsS RJ2 48 yJ2_length_9d52b wsJ2_length_9d52b) := goodIn_app (goodIn_of _ (by decide +kernel)) ggJ2_getChar_3b067_J2_length_9d52b
set_option maxRecDepth 20000 in
theorem ggJ2_charAt_3b067_J2_checkIndex_2214a : GoodIn wsJ2_charAt_3b067 wsJ2_checkIndex_2214a := goodIn_r _ [4, 5, 6, 3, 7, 8, 9, 10, 11, 12, 13, 14, 15, 16] (by decide +kernel) (by decide +kernel)
set_option maxRecDepth 20000 in
theorem gJ2_charAt_3b067_J2_checkIndex_2214a : GoodIn wsJ2_charAt_3b067 (va_wsS RJ2 67 yJ2_checkIndex_2214a wsJ2_checkIndex_2214a) := goodIn_app (goodIn_of _ (by decide +kernel)) ggJ2_charAt_3b067_J2_checkIndex_2214a
set_option maxRecDepth 20000 in
theorem ggJ2_charAt_3b067_J2_getChar_3b067 : GoodIn wsJ2_charAt_3b067 wsJ2_getChar_3b067 := goodIn_r _ [19, 20, 21, 22, 5, 6, 3, 7] (by decide +kernel) (by decide +kernel)
set_option maxRecDepth 20000 in
theorem gJ2_charAt_3b067_J2_getChar_3b067 : GoodIn wsJ2_charAt_3b067 (va_wsS RJ2 71 yJ2_getChar_3b067 wsJ2_getChar_3b067) := goodIn_app (goodIn_of _ (by decide +kernel)) ggJ2_charAt_3b067_J2_getChar_3b067
set_option maxRecDepth 20000 in
theorem ggJ2_checkIndex_2214a_J2_length_9d52b : GoodIn wsJ2_checkIndex_2214a wsJ2_length_9d52b := goodIn_r _ [4] (by decide +kernel) (by decide +kernel)
set_option maxRecDepth 20000 in
theorem gJ2_checkIndex_2214a_J2_length_9d52b : GoodIn wsJ2_checkIndex_2214a (va_wsS RJ2 48 yJ2_length_9d52b wsJ2_length_9d52b) := goodIn_app (goodIn_of _ (by decide +kernel)) ggJ2_checkIndex_2214a_J2_length_9d52b
set_option maxRecDepth 20000 in
theorem ggJ2_checkIndex_2214a_J0_checkIndex_df160 : GoodIn wsJ2_checkIndex_2214a wsJ0_checkIndex_df160 := goodIn_r _ [8, 9, 10, 11, 12, 13] (by decide +kernel) (by decide +kernel)
set_option maxRecDepth 20000 in
theorem gJ2_checkIndex_2214a_J0_checkIndex_df160 : GoodIn wsJ2_checkIndex_2214a (va_wsS RJ2 414 yJ0_checkIndex_df160 wsJ0_checkIndex_df160) := goodIn_app (goodIn_of _ (by decide +kernel)) ggJ2_checkIndex_2214a_J0_checkIndex_df160
