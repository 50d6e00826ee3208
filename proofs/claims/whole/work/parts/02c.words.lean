set_option maxRecDepth 20000 in
theorem ggX1_init_X3_init : GoodIn wsX1_init wsX3_init := goodIn_r _ [11, 12, 2, 3] (by decide +kernel) (by decide +kernel)
set_option maxRecDepth 20000 in
theorem gX1_init_X3_init_n23 : GoodIn wsX1_init (wsX3_init) := ggX1_init_X3_init
set_option maxRecDepth 20000 in
theorem ggX1_read_X1_openLevel : GoodIn wsX1_read wsX1_openLevel := goodIn_r _ [17, 10, 11, 18, 19, 12, 20, 21, 22, 23, 7, 5, 9, 24, 25, 26, 16, 27, 3, 4, 211, 212, 213, 214, 215, 216, 217, 218, 219, 220, 221, 222, 223, 224, 225, 226, 227, 228] (by decide +kernel) (by decide +kernel)
set_option maxRecDepth 20000 in
theorem gX1_read_X1_openLevel : GoodIn wsX1_read (wsV RX1 57 RX1 yX1_openLevel wsX1_openLevel) := goodIn_app (goodIn_of _ (by decide +kernel)) ggX1_read_X1_openLevel
set_option maxRecDepth 20000 in
theorem ggX1_read_X1_readElement : GoodIn wsX1_read wsX1_readElement := goodIn_r _ [31, 12, 21, 22, 18, 20, 1, 23, 7, 32, 33, 34, 16, 35, 36, 37, 38, 39, 40, 41, 42, 43, 44, 45, 24, 25, 26, 27, 3, 4, 46, 47, 48, 49, 50, 51, 52, 53, 54, 19, 10, 55, 56, 57, 58, 59, 60, 61, 62, 63, 64, 65, 66, 67, 68, 69, 70, 71, 72, 73, 74, 75, 76, 77, 78, 79, 80, 81, 82, 83, 84, 85, 86, 87, 88, 89, 90, 91, 92, 13, 14, 15, 17, 11, 5, 9, 93, 94, 95, 96, 97, 8, 98, 99, 100, 101, 102, 103, 104, 105, 106, 107, 108, 109, 110, 111, 112, 113, 114, 115, 116, 117, 118, 119, 120, 121, 122, 123, 124, 125, 126, 127, 128, 129, 130, 131, 132, 133, 134, 135, 136, 137, 138, 139, 140, 141, 142, 143, 144, 145, 146, 147, 148, 149, 150, 151, 152, 153, 154, 155, 156, 2, 157, 6, 158, 159, 160, 161, 162, 163, 164, 165, 166, 167, 168, 169, 170, 171, 172, 173, 174, 175, 176, 177, 178, 179, 180, 181, 182, 183, 184, 185, 186, 187, 188, 189, 190, 191, 192, 193, 194, 195, 196, 197, 198, 199, 200, 201, 202, 203, 204, 205, 206, 207, 208, 209, 210, 224, 225, 226, 227, 228, 211, 212, 213, 214, 215, 216, 217, 218, 219, 220, 221, 222, 223, 229, 230, 231, 232, 233, 234, 235, 236] (by decide +kernel) (by decide +kernel)
set_option maxRecDepth 20000 in
theorem gX1_read_X1_readElement : GoodIn wsX1_read (wsV RX1 64 RX1 yX1_readElement wsX1_readElement) := goodIn_app (goodIn_of _ (by decide +kernel)) ggX1_read_X1_readElement
set_option maxRecDepth 20000 in
theorem ggX1_read_X1_closeLevel : GoodIn wsX1_read wsX1_closeLevel := goodIn_r _ [54, 18, 20, 19, 10, 55, 56, 16, 57, 58, 59, 60, 61, 62, 7, 24, 25, 26, 27, 3, 4, 224, 225, 226, 227, 228, 211, 212, 213, 214, 215, 216, 217, 218, 219, 220, 221, 222, 223] (by decide +kernel) (by decide +kernel)
set_option maxRecDepth 20000 in
theorem gX1_read_X1_closeLevel : GoodIn wsX1_read (wsV RX1 68 RX1 yX1_closeLevel wsX1_closeLevel) := goodIn_app (goodIn_of _ (by decide +kernel)) ggX1_read_X1_closeLevel
set_option maxRecDepth 20000 in
theorem ggX1_openLevel_X1_fail : GoodIn wsX1_openLevel wsX1_fail := goodIn_r _ [17, 18, 19, 20, 21, 22, 23, 24, 25, 26, 27, 28, 29, 30, 31, 32] (by decide +kernel) (by decide +kernel)
set_option maxRecDepth 20000 in
theorem gX1_openLevel_X1_fail : GoodIn wsX1_openLevel (wsV RX1 71 RX1 yX1_fail wsX1_fail) := goodIn_app (goodIn_of _ (by decide +kernel)) ggX1_openLevel_X1_fail
set_option maxRecDepth 20000 in
theorem ggX1_closeLevel_X1_lacksSome : GoodIn wsX1_closeLevel wsX1_lacksSome := goodIn_r _ [8, 9, 10, 11, 7, 12, 13, 14] (by decide +kernel) (by decide +kernel)
set_option maxRecDepth 20000 in
theorem gX1_closeLevel_X1_lacksSome : GoodIn wsX1_closeLevel (va_wsS RX1 92 yX1_lacksSome wsX1_lacksSome) := goodIn_app (goodIn_of _ (by decide +kernel)) ggX1_closeLevel_X1_lacksSome
set_option maxRecDepth 20000 in
theorem ggX1_closeLevel_X1_fail : GoodIn wsX1_closeLevel wsX1_fail := goodIn_r _ [18, 19, 20, 26, 27, 28, 29, 30, 31, 32, 33, 34, 35, 36, 37, 38] (by decide +kernel) (by decide +kernel)
set_option maxRecDepth 20000 in
theorem gX1_closeLevel_X1_fail : GoodIn wsX1_closeLevel (wsV RX1 71 RX1 yX1_fail wsX1_fail) := goodIn_app (goodIn_of _ (by decide +kernel)) ggX1_closeLevel_X1_fail
set_option maxRecDepth 20000 in
theorem ggX1_readElement_X1_readId : GoodIn wsX1_readElement wsX1_readId := goodIn_r _ [13, 6, 14, 15, 16, 17, 18, 19, 20, 21, 22, 12, 23, 24, 25, 26, 27, 28, 29, 30, 31, 32, 33, 34, 212, 213, 214, 215, 216, 217, 218, 219, 220, 221, 222, 223, 224, 225, 226, 227, 228] (by decide +kernel) (by decide +kernel)
set_option maxRecDepth 20000 in
theorem gX1_readElement_X1_readId : GoodIn wsX1_readElement (wsV RX1 96 RX1 yX1_readId wsX1_readId) := goodIn_app (goodIn_of _ (by decide +kernel)) ggX1_readElement_X1_readId
set_option maxRecDepth 20000 in
theorem ggX1_readElement_X1_closeLevel : GoodIn wsX1_readElement wsX1_closeLevel := goodIn_r _ [38, 4, 5, 39, 40, 41, 42, 12, 43, 44, 45, 46, 47, 48, 8, 24, 25, 26, 27, 28, 29, 207, 208, 209, 210, 211, 212, 213, 214, 215, 216, 217, 218, 219, 220, 221, 222, 223, 224] (by decide +kernel) (by decide +kernel)
set_option maxRecDepth 20000 in
theorem gX1_readElement_X1_closeLevel : GoodIn wsX1_readElement (wsV RX1 68 RX1 yX1_closeLevel wsX1_closeLevel) := goodIn_app (goodIn_of _ (by decide +kernel)) ggX1_readElement_X1_closeLevel
set_option maxRecDepth 20000 in
theorem ggX1_readElement_X1_rowOf : GoodIn wsX1_readElement wsX1_rowOf := goodIn_r _ [51, 8, 45, 46, 12, 47, 48] (by decide +kernel) (by decide +kernel)
set_option maxRecDepth 20000 in
theorem gX1_readElement_X1_rowOf : GoodIn wsX1_readElement (va_wsS RX1 99 yX1_rowOf wsX1_rowOf) := goodIn_app (goodIn_of _ (by decide +kernel)) ggX1_readElement_X1_rowOf
set_option maxRecDepth 20000 in
theorem ggX1_readElement_X1_mayStand : GoodIn wsX1_readElement wsX1_mayStand := goodIn_r _ [54, 55, 56, 3, 57, 58, 59, 12, 60, 49, 50, 51, 8, 45, 46, 47, 48] (by decide +kernel) (by decide +kernel)
set_option maxRecDepth 20000 in
theorem gX1_readElement_X1_mayStand : GoodIn wsX1_readElement (va_wsS RX1 102 yX1_mayStand wsX1_mayStand) := goodIn_app (goodIn_of _ (by decide +kernel)) ggX1_readElement_X1_mayStand
set_option maxRecDepth 20000 in
theorem ggX1_readElement_X1_fail : GoodIn wsX1_readElement wsX1_fail := goodIn_r _ [27, 28, 29, 212, 213, 214, 215, 216, 217, 218, 219, 220, 221, 222, 223, 224] (by decide +kernel) (by decide +kernel)
set_option maxRecDepth 20000 in
theorem gX1_readElement_X1_fail : GoodIn wsX1_readElement (wsV RX1 71 RX1 yX1_fail wsX1_fail) := goodIn_app (goodIn_of _ (by decide +kernel)) ggX1_readElement_X1_fail
set_option maxRecDepth 20000 in
theorem ggX1_readElement_X8_at : GoodIn wsX1_readElement wsX8_at := goodIn_r _ [18, 19, 20, 225, 226, 227, 228] (by decide +kernel) (by decide +kernel)
set_option maxRecDepth 20000 in
theorem gX1_readElement_X8_at : GoodIn wsX1_readElement (wsV RX1 105 RX8 yX8_at wsX8_at) := goodIn_app (goodIn_of _ (by decide +kernel)) ggX1_readElement_X8_at
set_option maxRecDepth 20000 in
theorem ggX1_readElement_X1_markedWidth : GoodIn wsX1_readElement wsX1_markedWidth := goodIn_r _ [23] (by decide +kernel) (by decide +kernel)
set_option maxRecDepth 20000 in
theorem gX1_readElement_X1_markedWidth : GoodIn wsX1_readElement (va_wsS RX1 111 yX1_markedWidth wsX1_markedWidth) := goodIn_app (goodIn_of _ (by decide +kernel)) ggX1_readElement_X1_markedWidth
set_option maxRecDepth 20000 in
theorem ggX1_readElement_X1_readSize : GoodIn wsX1_readElement wsX1_readSize := goodIn_r _ [64, 7, 55, 3, 65, 8, 66, 67, 68, 12, 69, 6, 14, 15, 16, 17, 18, 19, 20, 21, 22, 23, 24, 25, 26, 27, 28, 29, 70, 71, 72, 73, 74, 75, 76, 77, 78, 212, 213, 214, 215, 216, 217, 218, 219, 220, 221, 222, 223, 224, 225, 226, 227, 228] (by decide +kernel) (by decide +kernel)
set_option maxRecDepth 20000 in
theorem gX1_readElement_X1_readSize : GoodIn wsX1_readElement (wsV RX1 114 RX1 yX1_readSize wsX1_readSize) := goodIn_app (goodIn_of _ (by decide +kernel)) ggX1_readElement_X1_readSize
set_option maxRecDepth 20000 in
theorem ggX1_readElement_X1_column : GoodIn wsX1_readElement wsX1_column := goodIn_r _ [47, 48, 8] (by decide +kernel) (by decide +kernel)
set_option maxRecDepth 20000 in
theorem gX1_readElement_X1_column : GoodIn wsX1_readElement (va_wsS RX1 117 yX1_column wsX1_column) := goodIn_app (goodIn_of _ (by decide +kernel)) ggX1_readElement_X1_column
set_option maxRecDepth 20000 in
theorem ggX1_readElement_X1_openLevel : GoodIn wsX1_readElement wsX1_openLevel := goodIn_r _ [82, 40, 83, 4, 39, 1, 5, 2, 3, 7, 8, 84, 85, 24, 25, 26, 12, 27, 28, 29, 212, 213, 214, 215, 216, 217, 218, 219, 220, 221, 222, 223, 224, 207, 208, 209, 210, 211] (by decide +kernel) (by decide +kernel)
set_option maxRecDepth 20000 in
theorem gX1_readElement_X1_openLevel : GoodIn wsX1_readElement (wsV RX1 57 RX1 yX1_openLevel wsX1_openLevel) := goodIn_app (goodIn_of _ (by decide +kernel)) ggX1_readElement_X1_openLevel
set_option maxRecDepth 20000 in
theorem ggX1_readElement_X1_readUint : GoodIn wsX1_readElement wsX1_readUint := goodIn_r _ [89, 6, 90, 91, 92, 85, 24, 25, 26, 12, 27, 28, 29, 30, 31, 32, 17, 33, 34, 15, 16, 18, 19, 20, 45, 46, 47, 48, 8, 212, 213, 214, 215, 216, 217, 218, 219, 220, 221, 222, 223, 224, 225, 226, 227, 228] (by decide +kernel) (by decide +kernel)
set_option maxRecDepth 20000 in
theorem gX1_readElement_X1_readUint : GoodIn wsX1_readElement (wsV RX1 121 RX1 yX1_readUint wsX1_readUint) := goodIn_app (goodIn_of _ (by decide +kernel)) ggX1_readElement_X1_readUint
set_option maxRecDepth 20000 in
theorem ggX1_readElement_X1_isDocumentName : GoodIn wsX1_readElement wsX1_isDocumentName := goodIn_r _ [96, 6, 97, 98, 99, 100, 101, 102, 103, 104, 105, 106, 107, 108, 14, 15, 16, 17, 18, 19, 20, 109, 110, 111, 112, 113, 114, 115, 116, 117, 118, 119, 120, 121, 122, 123, 124, 125, 126, 127, 128, 129, 130, 131, 132, 133, 134, 135, 136, 137, 138, 139, 140, 141, 142, 143, 144, 145, 212, 213, 214, 215, 216, 217, 218, 219, 220, 221, 222, 223, 224, 225, 226, 227, 228] (by decide +kernel) (by decide +kernel)
set_option maxRecDepth 20000 in
theorem gX1_readElement_X1_isDocumentName : GoodIn wsX1_readElement (wsV RX1 124 RX1 yX1_isDocumentName wsX1_isDocumentName) := goodIn_app (goodIn_of _ (by decide +kernel)) ggX1_readElement_X1_isDocumentName
set_option maxRecDepth 20000 in
theorem ggX1_readElement_X1_readBlock : GoodIn wsX1_readElement wsX1_readBlock := goodIn_r _ [149, 85, 8, 91, 6, 150, 151, 152, 153, 24, 25, 26, 12, 27, 28, 29, 66, 67, 68, 69, 14, 15, 16, 17, 18, 19, 20, 21, 22, 23, 70, 71, 72, 73, 74, 75, 76, 77, 78, 30, 31, 32, 33, 34, 154, 155, 156, 157, 158, 159, 160, 161, 162, 163, 164, 165, 166, 167, 168, 169, 170, 171, 172, 173, 174, 175, 176, 177, 178, 179, 180, 181, 182, 183, 184, 185, 186, 187, 188, 189, 190, 191, 192, 193, 194, 195, 196, 197, 198, 199, 200, 201, 202, 203, 204, 205, 206, 212, 213, 214, 215, 216, 217, 218, 219, 220, 221, 222, 223, 224, 225, 226, 227, 228, 229, 230, 231, 232] (by decide +kernel) (by decide +kernel)
set_option maxRecDepth 20000 in
theorem gX1_readElement_X1_readBlock : GoodIn wsX1_readElement (wsV RX1 127 RX1 yX1_readBlock wsX1_readBlock) := goodIn_app (goodIn_of _ (by decide +kernel)) ggX1_readElement_X1_readBlock
set_option maxRecDepth 20000 in
theorem ggX1_rowOf_X1_column : GoodIn wsX1_rowOf wsX1_column := goodIn_r _ [5, 6, 1] (by decide +kernel) (by decide +kernel)
set_option maxRecDepth 20000 in
theorem gX1_rowOf_X1_column : GoodIn wsX1_rowOf (va_wsS RX1 117 yX1_column wsX1_column) := goodIn_app (goodIn_of _ (by decide +kernel)) ggX1_rowOf_X1_column
set_option maxRecDepth 20000 in
theorem ggX1_lacksSome_X1_column : GoodIn wsX1_lacksSome wsX1_column := goodIn_r _ [5, 6, 7] (by decide +kernel) (by decide +kernel)
set_option maxRecDepth 20000 in
theorem gX1_lacksSome_X1_column : GoodIn wsX1_lacksSome (va_wsS RX1 117 yX1_column wsX1_column) := goodIn_app (goodIn_of _ (by decide +kernel)) ggX1_lacksSome_X1_column
set_option maxRecDepth 20000 in
theorem ggX1_mayStand_X1_isSeen : GoodIn wsX1_mayStand wsX1_isSeen := goodIn_r _ [8, 9, 10, 7, 11, 12, 13, 14, 15, 16] (by decide +kernel) (by decide +kernel)
set_option maxRecDepth 20000 in
theorem gX1_mayStand_X1_isSeen : GoodIn wsX1_mayStand (va_wsS RX1 137 yX1_isSeen wsX1_isSeen) := goodIn_app (goodIn_of _ (by decide +kernel)) ggX1_mayStand_X1_isSeen
set_option maxRecDepth 20000 in
theorem ggX1_isSeen_X1_rowOf : GoodIn wsX1_isSeen wsX1_rowOf := goodIn_r _ [4, 5, 6, 7, 3, 8, 9] (by decide +kernel) (by decide +kernel)
set_option maxRecDepth 20000 in
theorem gX1_isSeen_X1_rowOf : GoodIn wsX1_isSeen (va_wsS RX1 99 yX1_rowOf wsX1_rowOf) := goodIn_app (goodIn_of _ (by decide +kernel)) ggX1_isSeen_X1_rowOf
set_option maxRecDepth 20000 in
theorem ggX1_readId_X8_at : GoodIn wsX1_readId wsX8_at := goodIn_r _ [6, 7, 8, 37, 38, 39, 40] (by decide +kernel) (by decide +kernel)
set_option maxRecDepth 20000 in
theorem gX1_readId_X8_at : GoodIn wsX1_readId (wsV RX1 105 RX8 yX8_at wsX8_at) := goodIn_app (goodIn_of _ (by decide +kernel)) ggX1_readId_X8_at
set_option maxRecDepth 20000 in
theorem ggX1_readId_X1_markedWidth : GoodIn wsX1_readId wsX1_markedWidth := goodIn_r _ [12] (by decide +kernel) (by decide +kernel)
set_option maxRecDepth 20000 in
theorem gX1_readId_X1_markedWidth : GoodIn wsX1_readId (va_wsS RX1 111 yX1_markedWidth wsX1_markedWidth) := goodIn_app (goodIn_of _ (by decide +kernel)) ggX1_readId_X1_markedWidth
set_option maxRecDepth 20000 in
theorem ggX1_readId_X1_fail : GoodIn wsX1_readId wsX1_fail := goodIn_r _ [16, 17, 18, 24, 25, 26, 27, 28, 29, 30, 31, 32, 33, 34, 35, 36] (by decide +kernel) (by decide +kernel)
set_option maxRecDepth 20000 in
theorem gX1_readId_X1_fail : GoodIn wsX1_readId (wsV RX1 71 RX1 yX1_fail wsX1_fail) := goodIn_app (goodIn_of _ (by decide +kernel)) ggX1_readId_X1_fail
set_option maxRecDepth 20000 in
theorem ggX1_readId_X8_highFirst : GoodIn wsX1_readId wsX8_highFirst := goodIn_r _ [22, 23, 3, 4, 5, 6, 7, 8, 37, 38, 39, 40] (by decide +kernel) (by decide +kernel)
set_option maxRecDepth 20000 in
theorem gX1_readId_X8_highFirst : GoodIn wsX1_readId (wsV RX1 143 RX8 yX8_highFirst wsX8_highFirst) := goodIn_app (goodIn_of _ (by decide +kernel)) ggX1_readId_X8_highFirst
set_option maxRecDepth 20000 in
theorem ggX1_sizeWidth_X8_at : GoodIn wsX1_sizeWidth wsX8_at := goodIn_r _ [6, 7, 8, 26, 27, 28, 29] (by decide +kernel) (by decide +kernel)
set_option maxRecDepth 20000 in
theorem gX1_sizeWidth_X8_at : GoodIn wsX1_sizeWidth (wsV RX1 105 RX8 yX8_at wsX8_at) := goodIn_app (goodIn_of _ (by decide +kernel)) ggX1_sizeWidth_X8_at
set_option maxRecDepth 20000 in
theorem ggX1_sizeWidth_X1_markedWidth : GoodIn wsX1_sizeWidth wsX1_markedWidth := goodIn_r _ [12] (by decide +kernel) (by decide +kernel)
set_option maxRecDepth 20000 in
theorem gX1_sizeWidth_X1_markedWidth : GoodIn wsX1_sizeWidth (va_wsS RX1 111 yX1_markedWidth wsX1_markedWidth) := goodIn_app (goodIn_of _ (by decide +kernel)) ggX1_sizeWidth_X1_markedWidth
set_option maxRecDepth 20000 in
theorem ggX1_sizeNumber_X8_at : GoodIn wsX1_sizeNumber wsX8_at := goodIn_r _ [7, 8, 9, 28, 29, 30, 31] (by decide +kernel) (by decide +kernel)
set_option maxRecDepth 20000 in
theorem gX1_sizeNumber_X8_at : GoodIn wsX1_sizeNumber (wsV RX1 105 RX8 yX8_at wsX8_at) := goodIn_app (goodIn_of _ (by decide +kernel)) ggX1_sizeNumber_X8_at
set_option maxRecDepth 20000 in
theorem ggX1_sizeNumber_X0_highestSize : GoodIn wsX1_sizeNumber wsX0_highestSize := goodIn_r _ [13, 14] (by decide +kernel) (by decide +kernel)
set_option maxRecDepth 20000 in
theorem gX1_sizeNumber_X0_highestSize : GoodIn wsX1_sizeNumber (va_wsS RX1 146 yX0_highestSize wsX0_highestSize) := goodIn_app (goodIn_of _ (by decide +kernel)) ggX1_sizeNumber_X0_highestSize
set_option maxRecDepth 20000 in
theorem ggX1_readSize_X1_sizeWidth : GoodIn wsX1_readSize wsX1_sizeWidth := goodIn_r _ [10, 11, 12, 13, 14, 15, 16, 17, 18, 19, 20, 9, 21, 37, 38, 39, 40, 41, 42, 43, 44, 45, 46, 47, 48, 49, 50, 51, 52, 53] (by decide +kernel) (by decide +kernel)
set_option maxRecDepth 20000 in
theorem gX1_readSize_X1_sizeWidth : GoodIn wsX1_readSize (wsV RX1 150 RX1 yX1_sizeWidth wsX1_sizeWidth) := goodIn_app (goodIn_of _ (by decide +kernel)) ggX1_readSize_X1_sizeWidth
set_option maxRecDepth 20000 in
theorem ggX1_readSize_X1_fail : GoodIn wsX1_readSize wsX1_fail := goodIn_r _ [25, 26, 27, 37, 38, 39, 40, 41, 42, 43, 44, 45, 46, 47, 48, 49] (by decide +kernel) (by decide +kernel)
set_option maxRecDepth 20000 in
theorem gX1_readSize_X1_fail : GoodIn wsX1_readSize (wsV RX1 71 RX1 yX1_fail wsX1_fail) := goodIn_app (goodIn_of _ (by decide +kernel)) ggX1_readSize_X1_fail
set_option maxRecDepth 20000 in
theorem ggX1_readSize_X1_sizeNumber : GoodIn wsX1_readSize wsX1_sizeNumber := goodIn_r _ [31, 11, 5, 12, 13, 14, 15, 16, 17, 18, 32, 33, 34, 35, 36, 37, 38, 39, 40, 41, 42, 43, 44, 45, 46, 47, 48, 49, 50, 51, 52, 53] (by decide +kernel) (by decide +kernel)
set_option maxRecDepth 20000 in
theorem gX1_readSize_X1_sizeNumber : GoodIn wsX1_readSize (wsV RX1 153 RX1 yX1_sizeNumber wsX1_sizeNumber) := goodIn_app (goodIn_of _ (by decide +kernel)) ggX1_readSize_X1_sizeNumber
set_option maxRecDepth 20000 in
theorem ggX1_readUint_X1_fail : GoodIn wsX1_readUint wsX1_fail := goodIn_r _ [10, 11, 12, 29, 30, 31, 32, 33, 34, 35, 36, 37, 38, 39, 40, 41] (by decide +kernel) (by decide +kernel)
set_option maxRecDepth 20000 in
theorem gX1_readUint_X1_fail : GoodIn wsX1_readUint (wsV RX1 71 RX1 yX1_fail wsX1_fail) := goodIn_app (goodIn_of _ (by decide +kernel)) ggX1_readUint_X1_fail
set_option maxRecDepth 20000 in
theorem ggX1_readUint_X8_highFirst : GoodIn wsX1_readUint wsX8_highFirst := goodIn_r _ [17, 18, 19, 20, 16, 21, 22, 23, 42, 43, 44, 45] (by decide +kernel) (by decide +kernel)
set_option maxRecDepth 20000 in
theorem gX1_readUint_X8_highFirst : GoodIn wsX1_readUint (wsV RX1 143 RX8 yX8_highFirst wsX8_highFirst) := goodIn_app (goodIn_of _ (by decide +kernel)) ggX1_readUint_X8_highFirst
set_option maxRecDepth 20000 in
theorem ggX1_readUint_X1_column : GoodIn wsX1_readUint wsX1_column := goodIn_r _ [26, 27, 28] (by decide +kernel) (by decide +kernel)
set_option maxRecDepth 20000 in
theorem gX1_readUint_X1_column : GoodIn wsX1_readUint (va_wsS RX1 117 yX1_column wsX1_column) := goodIn_app (goodIn_of _ (by decide +kernel)) ggX1_readUint_X1_column
set_option maxRecDepth 20000 in
theorem ggX1_isDocumentName_J0_length_8abf5 : GoodIn wsX1_isDocumentName wsJ0_length_8abf5 := goodIn_r _ [6, 7, 8, 9, 10, 5, 11, 12, 13] (by decide +kernel) (by decide +kernel)
set_option maxRecDepth 20000 in
theorem gX1_isDocumentName_J0_length_8abf5 : GoodIn wsX1_isDocumentName (wsV RX1 164 RJ0 yJ0_length_8abf5 wsJ0_length_8abf5) := goodIn_app (goodIn_of _ (by decide +kernel)) ggX1_isDocumentName_J0_length_8abf5
set_option maxRecDepth 20000 in
theorem ggX1_isDocumentName_X8_at : GoodIn wsX1_isDocumentName wsX8_at := goodIn_r _ [18, 19, 20, 71, 72, 73, 74] (by decide +kernel) (by decide +kernel)
set_option maxRecDepth 20000 in
theorem gX1_isDocumentName_X8_at : GoodIn wsX1_isDocumentName (wsV RX1 105 RX8 yX8_at wsX8_at) := goodIn_app (goodIn_of _ (by decide +kernel)) ggX1_isDocumentName_X8_at
set_option maxRecDepth 20000 in
theorem ggX1_isDocumentName_J0_charAt_5068e : GoodIn wsX1_isDocumentName wsJ0_charAt_5068e := goodIn_r _ [24, 7, 25, 26, 27, 5, 28, 12, 13, 29, 30, 31, 32, 33, 34, 35, 36, 37, 38, 39, 40, 41, 42, 43, 44, 45, 46, 47, 48, 49, 50, 51, 52, 53, 54, 55, 56, 57] (by decide +kernel) (by decide +kernel)
set_option maxRecDepth 20000 in
theorem gX1_isDocumentName_J0_charAt_5068e : GoodIn wsX1_isDocumentName (wsV RX1 170 RJ0 yJ0_charAt_5068e wsJ0_charAt_5068e) := goodIn_app (goodIn_of _ (by decide +kernel)) ggX1_isDocumentName_J0_charAt_5068e
set_option maxRecDepth 20000 in
theorem ggX1_readBlock_X1_fail : GoodIn wsX1_readBlock wsX1_fail := goodIn_r _ [13, 14, 15, 97, 98, 99, 100, 101, 102, 103, 104, 105, 106, 107, 108, 109] (by decide +kernel) (by decide +kernel)
set_option maxRecDepth 20000 in
theorem gX1_readBlock_X1_fail : GoodIn wsX1_readBlock (wsV RX1 71 RX1 yX1_fail wsX1_fail) := goodIn_app (goodIn_of _ (by decide +kernel)) ggX1_readBlock_X1_fail
set_option maxRecDepth 20000 in
theorem ggX1_readBlock_X1_sizeWidth : GoodIn wsX1_readBlock wsX1_sizeWidth := goodIn_r _ [19, 4, 20, 21, 22, 23, 24, 25, 26, 27, 28, 12, 29, 97, 98, 99, 100, 101, 102, 103, 104, 105, 106, 107, 108, 109, 110, 111, 112, 113] (by decide +kernel) (by decide +kernel)
set_option maxRecDepth 20000 in
theorem gX1_readBlock_X1_sizeWidth : GoodIn wsX1_readBlock (wsV RX1 150 RX1 yX1_sizeWidth wsX1_sizeWidth) := goodIn_app (goodIn_of _ (by decide +kernel)) ggX1_readBlock_X1_sizeWidth
set_option maxRecDepth 20000 in
theorem ggX1_readBlock_X1_sizeNumber : GoodIn wsX1_readBlock wsX1_sizeNumber := goodIn_r _ [33, 4, 2, 20, 21, 22, 23, 24, 25, 26, 34, 35, 36, 37, 38, 97, 98, 99, 100, 101, 102, 103, 104, 105, 106, 107, 108, 109, 110, 111, 112, 113] (by decide +kernel) (by decide +kernel)
set_option maxRecDepth 20000 in
theorem gX1_readBlock_X1_sizeNumber : GoodIn wsX1_readBlock (wsV RX1 153 RX1 yX1_sizeNumber wsX1_sizeNumber) := goodIn_app (goodIn_of _ (by decide +kernel)) ggX1_readBlock_X1_sizeNumber
set_option maxRecDepth 20000 in
theorem ggX1_readBlock_X8_highFirst : GoodIn wsX1_readBlock wsX8_highFirst := goodIn_r _ [42, 43, 21, 22, 23, 24, 25, 26, 110, 111, 112, 113] (by decide +kernel) (by decide +kernel)
set_option maxRecDepth 20000 in
theorem gX1_readBlock_X8_highFirst : GoodIn wsX1_readBlock (wsV RX1 143 RX8 yX8_highFirst wsX8_highFirst) := goodIn_app (goodIn_of _ (by decide +kernel)) ggX1_readBlock_X8_highFirst
set_option maxRecDepth 20000 in
theorem ggX1_readBlock_X8_at : GoodIn wsX1_readBlock wsX8_at := goodIn_r _ [24, 25, 26, 110, 111, 112, 113] (by decide +kernel) (by decide +kernel)
set_option maxRecDepth 20000 in
theorem gX1_readBlock_X8_at : GoodIn wsX1_readBlock (wsV RX1 105 RX8 yX8_at wsX8_at) := goodIn_app (goodIn_of _ (by decide +kernel)) ggX1_readBlock_X8_at
set_option maxRecDepth 20000 in
theorem ggX1_readBlock_X1_readLacing : GoodIn wsX1_readBlock wsX1_readLacing := goodIn_r _ [47, 7, 48, 4, 20, 21, 22, 23, 24, 25, 26, 49, 50, 51, 12, 52, 53, 54, 55, 56, 2, 57, 58, 59, 60, 16, 17, 18, 19, 27, 28, 29, 30, 31, 32, 33, 34, 35, 36, 37, 38, 61, 62, 63, 97, 98, 99, 100, 101, 102, 103, 104, 105, 106, 107, 108, 109, 110, 111, 112, 113] (by decide +kernel) (by decide +kernel)
set_option maxRecDepth 20000 in
theorem gX1_readBlock_X1_readLacing : GoodIn wsX1_readBlock (wsV RX1 176 RX1 yX1_readLacing wsX1_readLacing) := goodIn_app (goodIn_of _ (by decide +kernel)) ggX1_readBlock_X1_readLacing
set_option maxRecDepth 20000 in
theorem ggX1_readBlock_X4_hasRoom : GoodIn wsX1_readBlock wsX4_hasRoom := goodIn_r _ [68, 69, 70, 71, 114, 115, 116, 117, 110, 111, 112, 113] (by decide +kernel) (by decide +kernel)
set_option maxRecDepth 20000 in
theorem gX1_readBlock_X4_hasRoom : GoodIn wsX1_readBlock (wsV RX1 183 RX4 yX4_hasRoom wsX4_hasRoom) := goodIn_app (goodIn_of _ (by decide +kernel)) ggX1_readBlock_X4_hasRoom
set_option maxRecDepth 20000 in
theorem ggX1_readBlock_X1_takePackets : GoodIn wsX1_readBlock wsX1_takePackets := goodIn_r _ [75, 7, 48, 6, 76, 4, 2, 77, 78, 79, 23, 80, 43, 21, 22, 24, 25, 26, 81, 82, 83, 84, 85, 86, 87, 88, 89, 90, 91, 92, 93, 67, 94, 69, 95, 70, 71, 96, 97, 98, 99, 100, 101, 102, 103, 104, 105, 106, 107, 108, 109, 114, 115, 116, 117, 110, 111, 112, 113] (by decide +kernel) (by decide +kernel)
set_option maxRecDepth 20000 in
theorem gX1_readBlock_X1_takePackets : GoodIn wsX1_readBlock (wsV RX1 188 RX1 yX1_takePackets wsX1_takePackets) := goodIn_app (goodIn_of _ (by decide +kernel)) ggX1_readBlock_X1_takePackets
set_option maxRecDepth 20000 in
theorem ggX1_takePackets_X8_addPart : GoodIn wsX1_takePackets wsX8_addPart := goodIn_r _ [11, 12, 13, 14, 10, 15, 16, 17, 18, 19, 20, 21, 22, 23, 24, 25, 26, 27, 55, 56, 57, 58] (by decide +kernel) (by decide +kernel)
set_option maxRecDepth 20000 in
theorem gX1_takePackets_X8_addPart : GoodIn wsX1_takePackets (wsV RX1 195 RX8 yX8_addPart wsX8_addPart) := goodIn_app (goodIn_of _ (by decide +kernel)) ggX1_takePackets_X8_addPart
set_option maxRecDepth 20000 in
theorem ggX1_takePackets_X4_endPacket : GoodIn wsX1_takePackets wsX4_endPacket := goodIn_r _ [32, 33, 34, 35, 36, 37, 51, 52, 53, 54, 55, 56, 57, 58] (by decide +kernel) (by decide +kernel)
set_option maxRecDepth 20000 in
theorem gX1_takePackets_X4_endPacket : GoodIn wsX1_takePackets (wsV RX1 199 RX4 yX4_endPacket wsX4_endPacket) := goodIn_app (goodIn_of _ (by decide +kernel)) ggX1_takePackets_X4_endPacket
set_option maxRecDepth 20000 in
theorem ggX1_readLacing_X8_at : GoodIn wsX1_readLacing wsX8_at := goodIn_r _ [8, 9, 10, 57, 58, 59, 60] (by decide +kernel) (by decide +kernel)
set_option maxRecDepth 20000 in
theorem gX1_readLacing_X8_at : GoodIn wsX1_readLacing (wsV RX1 105 RX8 yX8_at wsX8_at) := goodIn_app (goodIn_of _ (by decide +kernel)) ggX1_readLacing_X8_at
set_option maxRecDepth 20000 in
theorem ggX1_readLacing_X1_shareAlike : GoodIn wsX1_readLacing wsX1_shareAlike := goodIn_r _ [15, 2, 44, 45, 46, 47, 48, 49, 50, 51, 52, 53, 54, 55, 56] (by decide +kernel) (by decide +kernel)
set_option maxRecDepth 20000 in
theorem gX1_readLacing_X1_shareAlike : GoodIn wsX1_readLacing (wsV RX1 203 RX1 yX1_shareAlike wsX1_shareAlike) := goodIn_app (goodIn_of _ (by decide +kernel)) ggX1_readLacing_X1_shareAlike
set_option maxRecDepth 20000 in
theorem ggX1_readLacing_X1_readSummedSize : GoodIn wsX1_readLacing wsX1_readSummedSize := goodIn_r _ [19, 1, 3, 20, 4, 5, 6, 7, 8, 9, 10, 44, 45, 46, 47, 48, 49, 50, 51, 52, 53, 54, 55, 56, 57, 58, 59, 60] (by decide +kernel) (by decide +kernel)
set_option maxRecDepth 20000 in
theorem gX1_readLacing_X1_readSummedSize : GoodIn wsX1_readLacing (wsV RX1 206 RX1 yX1_readSummedSize wsX1_readSummedSize) := goodIn_app (goodIn_of _ (by decide +kernel)) ggX1_readLacing_X1_readSummedSize
set_option maxRecDepth 20000 in
theorem ggX1_readLacing_X1_readSizeOrDifference : GoodIn wsX1_readLacing wsX1_readSizeOrDifference := goodIn_r _ [24, 1, 20, 2, 25, 26, 27, 14, 28, 3, 4, 5, 6, 7, 8, 9, 10, 29, 30, 31, 32, 33, 34, 35, 36, 37, 38, 39, 40, 41, 42, 43, 44, 45, 46, 47, 48, 49, 50, 51, 52, 53, 54, 55, 56, 57, 58, 59, 60] (by decide +kernel) (by decide +kernel)
set_option maxRecDepth 20000 in
theorem gX1_readLacing_X1_readSizeOrDifference : GoodIn wsX1_readLacing (wsV RX1 209 RX1 yX1_readSizeOrDifference wsX1_readSizeOrDifference) := goodIn_app (goodIn_of _ (by decide +kernel)) ggX1_readLacing_X1_readSizeOrDifference
set_option maxRecDepth 20000 in
theorem ggX1_readSummedSize_X8_at : GoodIn wsX1_readSummedSize wsX8_at := goodIn_r _ [8, 9, 10, 24, 25, 26, 27] (by decide +kernel) (by decide +kernel)
set_option maxRecDepth 20000 in
theorem gX1_readSummedSize_X8_at : GoodIn wsX1_readSummedSize (wsV RX1 105 RX8 yX8_at wsX8_at) := goodIn_app (goodIn_of _ (by decide +kernel)) ggX1_readSummedSize_X8_at
set_option maxRecDepth 20000 in
theorem ggX1_readSizeOrDifference_X1_sizeWidth : GoodIn wsX1_readSizeOrDifference wsX1_sizeWidth := goodIn_r _ [8, 9, 10, 11, 12, 13, 14, 15, 16, 17, 18, 7, 19, 32, 33, 34, 35, 36, 37, 38, 39, 40, 41, 42, 43, 44, 45, 46, 47, 48] (by decide +kernel) (by decide +kernel)
set_option maxRecDepth 20000 in
theorem gX1_readSizeOrDifference_X1_sizeWidth : GoodIn wsX1_readSizeOrDifference (wsV RX1 150 RX1 yX1_sizeWidth wsX1_sizeWidth) := goodIn_app (goodIn_of _ (by decide +kernel)) ggX1_readSizeOrDifference_X1_sizeWidth
set_option maxRecDepth 20000 in
theorem ggX1_readSizeOrDifference_X1_sizeNumber : GoodIn wsX1_readSizeOrDifference wsX1_sizeNumber := goodIn_r _ [23, 9, 2, 10, 11, 12, 13, 14, 15, 16, 24, 25, 26, 27, 28, 32, 33, 34, 35, 36, 37, 38, 39, 40, 41, 42, 43, 44, 45, 46, 47, 48] (by decide +kernel) (by decide +kernel)
set_option maxRecDepth 20000 in
theorem gX1_readSizeOrDifference_X1_sizeNumber : GoodIn wsX1_readSizeOrDifference (wsV RX1 153 RX1 yX1_sizeNumber wsX1_sizeNumber) := goodIn_app (goodIn_of _ (by decide +kernel)) ggX1_readSizeOrDifference_X1_sizeNumber
set_option maxRecDepth 20000 in
theorem ggX1_readSizeOrDifference_X0_differenceShift : GoodIn wsX1_readSizeOrDifference wsX0_differenceShift := goodIn_r _ [31] (by decide +kernel) (by decide +kernel)
set_option maxRecDepth 20000 in
theorem gX1_readSizeOrDifference_X0_differenceShift : GoodIn wsX1_readSizeOrDifference (va_wsS RX1 212 yX0_differenceShift wsX0_differenceShift) := goodIn_app (goodIn_of _ (by decide +kernel)) ggX1_readSizeOrDifference_X0_differenceShift
set_option maxRecDepth 20000 in
theorem ggX2_init_X8_init : GoodIn wsX2_init wsX8_init := goodIn_r _ [10, 11, 2, 3, 12, 13, 14, 15, 16, 17, 18, 19, 20, 21, 22] (by decide +kernel) (by decide +kernel)
set_option maxRecDepth 20000 in
theorem gX2_init_X8_init : GoodIn wsX2_init (wsX8_init) := ggX2_init_X8_init
set_option maxRecDepth 20000 in
theorem ggX2_write_X8_addEach : GoodIn wsX2_write wsX8_addEach := goodIn_r _ [15, 16, 17, 18, 14, 19, 20, 21, 22, 23, 24, 25, 26, 27, 137, 138, 139, 140] (by decide +kernel) (by decide +kernel)
set_option maxRecDepth 20000 in
theorem gX2_write_X8_addEach : GoodIn wsX2_write (wsV RX2 42 RX8 yX8_addEach wsX8_addEach) := goodIn_app (goodIn_of _ (by decide +kernel)) ggX2_write_X8_addEach
set_option maxRecDepth 20000 in
theorem ggX2_write_X2_beginLongElement : GoodIn wsX2_write wsX2_beginLongElement := goodIn_r _ [32, 2, 5, 33, 34, 35, 36, 14, 37, 16, 17, 18, 19, 20, 21, 22, 23, 24, 25, 26, 27, 38, 131, 132, 133, 134, 135, 136, 137, 138, 139, 140] (by decide +kernel) (by decide +kernel)
set_option maxRecDepth 20000 in
theorem gX2_write_X2_beginLongElement : GoodIn wsX2_write (wsV RX2 49 RX2 yX2_beginLongElement wsX2_beginLongElement) := goodIn_app (goodIn_of _ (by decide +kernel)) ggX2_write_X2_beginLongElement
set_option maxRecDepth 20000 in
theorem ggX2_write_X8_add : GoodIn wsX2_write wsX8_add := goodIn_r _ [19, 20, 21, 22, 23, 24, 25, 14, 26, 27, 137, 138, 139, 140] (by decide +kernel) (by decide +kernel)
set_option maxRecDepth 20000 in
theorem gX2_write_X8_add : GoodIn wsX2_write (wsV RX2 59 RX8 yX8_add wsX8_add) := goodIn_app (goodIn_of _ (by decide +kernel)) ggX2_write_X8_add
set_option maxRecDepth 20000 in
theorem ggX2_write_X2_putClusters : GoodIn wsX2_write wsX2_putClusters := goodIn_r _ [42, 1, 43, 44, 45, 46, 47, 48, 49, 50, 51, 52, 53, 54, 55, 56, 57, 58, 59, 60, 61, 62, 31, 63, 64, 65, 66, 67, 68, 69, 5, 70, 2, 33, 71, 24, 25, 14, 26, 20, 27, 28, 29, 30, 32, 34, 35, 36, 37, 16, 17, 18, 19, 21, 22, 23, 38, 72, 73, 74, 75, 76, 77, 78, 79, 80, 81, 82, 83, 84, 85, 86, 87, 4, 3, 88, 89, 90, 91, 92, 93, 94, 95, 96, 97, 98, 99, 100, 101, 102, 103, 104, 105, 106, 107, 108, 109, 110, 111, 112, 113, 114, 115, 116, 117, 118, 119, 120, 121, 122, 123, 124, 125, 126, 127, 128, 129, 130, 131, 132, 133, 134, 135, 136, 141, 142, 143, 144, 137, 138, 139, 140] (by decide +kernel) (by decide +kernel)
set_option maxRecDepth 20000 in
theorem gX2_write_X2_putClusters : GoodIn wsX2_write (wsV RX2 65 RX2 yX2_putClusters wsX2_putClusters) := goodIn_app (goodIn_of _ (by decide +kernel)) ggX2_write_X2_putClusters
set_option maxRecDepth 20000 in
theorem ggX2_write_X2_endLongElement : GoodIn wsX2_write wsX2_endLongElement := goodIn_r _ [69, 5, 70, 2, 33, 71, 24, 25, 14, 26, 20, 27, 131, 132, 133, 134, 135, 136, 137, 138, 139, 140] (by decide +kernel) (by decide +kernel)
set_option maxRecDepth 20000 in
theorem gX2_write_X2_endLongElement : GoodIn wsX2_write (wsV RX2 68 RX2 yX2_endLongElement wsX2_endLongElement) := goodIn_app (goodIn_of _ (by decide +kernel)) ggX2_write_X2_endLongElement
set_option maxRecDepth 20000 in
theorem ggX2_putClusters_X4_timeToWrite : GoodIn wsX2_putClusters wsX4_timeToWrite := goodIn_r _ [8, 9, 10, 11, 12, 7, 13, 14, 15, 16, 17, 18, 19, 124, 125, 126, 127] (by decide +kernel) (by decide +kernel)
set_option maxRecDepth 20000 in
theorem gX2_putClusters_X4_timeToWrite : GoodIn wsX2_putClusters (wsV RX2 76 RX4 yX4_timeToWrite wsX4_timeToWrite) := goodIn_app (goodIn_of _ (by decide +kernel)) ggX2_putClusters_X4_timeToWrite
set_option maxRecDepth 20000 in
theorem ggX2_putClusters_X2_fitsBlock : GoodIn wsX2_putClusters wsX2_fitsBlock := goodIn_r _ [23, 24, 25] (by decide +kernel) (by decide +kernel)
set_option maxRecDepth 20000 in
theorem gX2_putClusters_X2_fitsBlock : GoodIn wsX2_putClusters (va_wsS RX2 80 yX2_fitsBlock wsX2_fitsBlock) := goodIn_app (goodIn_of _ (by decide +kernel)) ggX2_putClusters_X2_fitsBlock
set_option maxRecDepth 20000 in
theorem ggX2_putClusters_X2_endLongElement : GoodIn wsX2_putClusters wsX2_endLongElement := goodIn_r _ [29, 30, 31, 32, 33, 34, 35, 36, 37, 38, 39, 40, 118, 119, 120, 121, 122, 123, 128, 129, 130, 131] (by decide +kernel) (by decide +kernel)
set_option maxRecDepth 20000 in
theorem gX2_putClusters_X2_endLongElement : GoodIn wsX2_putClusters (wsV RX2 68 RX2 yX2_endLongElement wsX2_endLongElement) := goodIn_app (goodIn_of _ (by decide +kernel)) ggX2_putClusters_X2_endLongElement
set_option maxRecDepth 20000 in
theorem ggX2_putClusters_X2_beginLongElement : GoodIn wsX2_putClusters wsX2_beginLongElement := goodIn_r _ [44, 32, 30, 33, 45, 46, 47, 37, 48, 49, 50, 51, 52, 39, 53, 54, 55, 35, 36, 38, 40, 56, 118, 119, 120, 121, 122, 123, 128, 129, 130, 131] (by decide +kernel) (by decide +kernel)
set_option maxRecDepth 20000 in
theorem gX2_putClusters_X2_beginLongElement : GoodIn wsX2_putClusters (wsV RX2 49 RX2 yX2_beginLongElement wsX2_beginLongElement) := goodIn_app (goodIn_of _ (by decide +kernel)) ggX2_putClusters_X2_beginLongElement
set_option maxRecDepth 20000 in
theorem ggX2_putClusters_X2_putClusterTime : GoodIn wsX2_putClusters wsX2_putClusterTime := goodIn_r _ [60, 32, 56, 50, 51, 37, 52, 39, 53, 54, 55, 35, 36, 38, 40, 61, 62, 22, 63, 64, 65, 66, 67, 68, 45, 46, 47, 48, 49, 118, 119, 120, 121, 122, 123, 128, 129, 130, 131] (by decide +kernel) (by decide +kernel)
set_option maxRecDepth 20000 in
theorem gX2_putClusters_X2_putClusterTime : GoodIn wsX2_putClusters (wsV RX2 85 RX2 yX2_putClusterTime wsX2_putClusterTime) := goodIn_app (goodIn_of _ (by decide +kernel)) ggX2_putClusters_X2_putClusterTime
set_option maxRecDepth 20000 in
theorem ggX2_putClusters_X2_packetsOfBlock : GoodIn wsX2_putClusters wsX2_packetsOfBlock := goodIn_r _ [72, 1, 2, 73, 74, 75, 76, 77, 7, 78, 79, 15, 16, 17, 18, 19, 80, 81, 82, 83, 118, 119, 120, 121, 122, 123, 124, 125, 126, 127] (by decide +kernel) (by decide +kernel)
set_option maxRecDepth 20000 in
theorem gX2_putClusters_X2_packetsOfBlock : GoodIn wsX2_putClusters (wsV RX2 89 RX2 yX2_packetsOfBlock wsX2_packetsOfBlock) := goodIn_app (goodIn_of _ (by decide +kernel)) ggX2_putClusters_X2_packetsOfBlock
set_option maxRecDepth 20000 in
theorem ggX2_putClusters_X2_putBlock : GoodIn wsX2_putClusters wsX2_putBlock := goodIn_r _ [87, 74, 88, 1, 32, 33, 89, 90, 91, 92, 37, 93, 39, 54, 56, 50, 51, 52, 53, 55, 35, 36, 38, 40, 45, 46, 47, 48, 49, 75, 76, 77, 7, 78, 79, 15, 16, 17, 18, 19, 80, 81, 82, 83, 94, 95, 96, 22, 97, 61, 62, 63, 64, 65, 66, 67, 68, 98, 99, 100, 101, 102, 103, 104, 105, 106, 107, 108, 109, 110, 111, 112, 113, 114, 115, 116, 117, 118, 119, 120, 121, 122, 123, 128, 129, 130, 131, 124, 125, 126, 127] (by decide +kernel) (by decide +kernel)
set_option maxRecDepth 20000 in
theorem gX2_putClusters_X2_putBlock : GoodIn wsX2_putClusters (wsV RX2 92 RX2 yX2_putBlock wsX2_putBlock) := goodIn_app (goodIn_of _ (by decide +kernel)) ggX2_putClusters_X2_putBlock
set_option maxRecDepth 20000 in
theorem ggX2_beginLongElement_X8_addHighFirst : GoodIn wsX2_beginLongElement wsX8_addHighFirst := goodIn_r _ [8, 9, 10, 11, 7, 12, 13, 14, 15, 16, 17, 18, 19, 20, 28, 29, 30, 31] (by decide +kernel) (by decide +kernel)
set_option maxRecDepth 20000 in
theorem gX2_beginLongElement_X8_addHighFirst : GoodIn wsX2_beginLongElement (wsV RX2 100 RX8 yX8_addHighFirst wsX8_addHighFirst) := goodIn_app (goodIn_of _ (by decide +kernel)) ggX2_beginLongElement_X8_addHighFirst
set_option maxRecDepth 20000 in
theorem ggX2_beginLongElement_X8_add : GoodIn wsX2_beginLongElement wsX8_add := goodIn_r _ [12, 13, 14, 15, 16, 17, 18, 7, 19, 20, 28, 29, 30, 31] (by decide +kernel) (by decide +kernel)
set_option maxRecDepth 20000 in
theorem gX2_beginLongElement_X8_add : GoodIn wsX2_beginLongElement (wsV RX2 59 RX8 yX8_add wsX8_add) := goodIn_app (goodIn_of _ (by decide +kernel)) ggX2_beginLongElement_X8_add
set_option maxRecDepth 20000 in
theorem ggX2_endLongElement_X8_change : GoodIn wsX2_endLongElement wsX8_change := goodIn_r _ [9, 10, 11, 18, 19, 20, 21] (by decide +kernel) (by decide +kernel)
set_option maxRecDepth 20000 in
theorem gX2_endLongElement_X8_change : GoodIn wsX2_endLongElement (wsV RX2 108 RX8 yX8_change wsX8_change) := goodIn_app (goodIn_of _ (by decide +kernel)) ggX2_endLongElement_X8_change
set_option maxRecDepth 20000 in
theorem ggX2_putClusterTime_X8_add : GoodIn wsX2_putClusterTime wsX8_add := goodIn_r _ [6, 7, 8, 9, 10, 11, 12, 5, 13, 14, 35, 36, 37, 38] (by decide +kernel) (by decide +kernel)
set_option maxRecDepth 20000 in
theorem gX2_putClusterTime_X8_add : GoodIn wsX2_putClusterTime (wsV RX2 59 RX8 yX8_add wsX8_add) := goodIn_app (goodIn_of _ (by decide +kernel)) ggX2_putClusterTime_X8_add
set_option maxRecDepth 20000 in
theorem ggX2_putClusterTime_X2_putSize : GoodIn wsX2_putClusterTime wsX2_putSize := goodIn_r _ [18, 19, 20, 21, 22, 23, 24, 25, 26, 5, 27, 28, 3, 4, 6, 7, 8, 9, 10, 11, 12, 13, 14, 35, 36, 37, 38] (by decide +kernel) (by decide +kernel)
set_option maxRecDepth 20000 in
theorem gX2_putClusterTime_X2_putSize : GoodIn wsX2_putClusterTime (va_wsS RX2 112 yX2_putSize wsX2_putSize) := goodIn_app (goodIn_of _ (by decide +kernel)) ggX2_putClusterTime_X2_putSize
set_option maxRecDepth 20000 in
theorem ggX2_putClusterTime_X8_addHighFirst : GoodIn wsX2_putClusterTime wsX8_addHighFirst := goodIn_r _ [27, 28, 3, 4, 5, 6, 7, 8, 9, 10, 11, 12, 13, 14, 35, 36, 37, 38] (by decide +kernel) (by decide +kernel)
set_option maxRecDepth 20000 in
theorem gX2_putClusterTime_X8_addHighFirst : GoodIn wsX2_putClusterTime (wsV RX2 100 RX8 yX8_addHighFirst wsX8_addHighFirst) := goodIn_app (goodIn_of _ (by decide +kernel)) ggX2_putClusterTime_X8_addHighFirst
set_option maxRecDepth 20000 in
theorem ggX2_packetsOfBlock_X4_bytesOf : GoodIn wsX2_packetsOfBlock wsX4_bytesOf := goodIn_r _ [9, 10, 11, 12, 13, 8, 14, 15, 16, 17, 18, 19, 26, 27, 28, 29] (by decide +kernel) (by decide +kernel)
set_option maxRecDepth 20000 in
theorem gX2_packetsOfBlock_X4_bytesOf : GoodIn wsX2_packetsOfBlock (wsV RX2 116 RX4 yX4_bytesOf wsX4_bytesOf) := goodIn_app (goodIn_of _ (by decide +kernel)) ggX2_packetsOfBlock_X4_bytesOf
set_option maxRecDepth 20000 in
theorem ggX2_putBlock_X8_empty : GoodIn wsX2_putBlock wsX8_empty := goodIn_r _ [11, 12, 13, 83, 84, 85, 86] (by decide +kernel) (by decide +kernel)
set_option maxRecDepth 20000 in
theorem gX2_putBlock_X8_empty : GoodIn wsX2_putBlock (wsV RX2 119 RX8 yX8_empty wsX8_empty) := goodIn_app (goodIn_of _ (by decide +kernel)) ggX2_putBlock_X8_empty
set_option maxRecDepth 20000 in
theorem ggX2_putBlock_X8_add : GoodIn wsX2_putBlock wsX8_add := goodIn_r _ [17, 12, 18, 13, 19, 20, 21, 10, 22, 23, 83, 84, 85, 86] (by decide +kernel) (by decide +kernel)
set_option maxRecDepth 20000 in
theorem gX2_putBlock_X8_add : GoodIn wsX2_putBlock (wsV RX2 59 RX8 yX8_add wsX8_add) := goodIn_app (goodIn_of _ (by decide +kernel)) ggX2_putBlock_X8_add
set_option maxRecDepth 20000 in
theorem ggX2_putBlock_X8_addHighFirst : GoodIn wsX2_putBlock wsX8_addHighFirst := goodIn_r _ [27, 28, 15, 16, 10, 17, 12, 18, 13, 19, 20, 21, 22, 23, 83, 84, 85, 86] (by decide +kernel) (by decide +kernel)
set_option maxRecDepth 20000 in
theorem gX2_putBlock_X8_addHighFirst : GoodIn wsX2_putBlock (wsV RX2 100 RX8 yX8_addHighFirst wsX8_addHighFirst) := goodIn_app (goodIn_of _ (by decide +kernel)) ggX2_putBlock_X8_addHighFirst
set_option maxRecDepth 20000 in
theorem ggX2_putBlock_X4_bytesOf : GoodIn wsX2_putBlock wsX4_bytesOf := goodIn_r _ [33, 34, 35, 36, 37, 32, 38, 39, 40, 41, 42, 43, 87, 88, 89, 90] (by decide +kernel) (by decide +kernel)
set_option maxRecDepth 20000 in
theorem gX2_putBlock_X4_bytesOf : GoodIn wsX2_putBlock (wsV RX2 116 RX4 yX4_bytesOf wsX4_bytesOf) := goodIn_app (goodIn_of _ (by decide +kernel)) ggX2_putBlock_X4_bytesOf
set_option maxRecDepth 20000 in
theorem ggX2_putBlock_X2_putSummedSize : GoodIn wsX2_putBlock wsX2_putSummedSize := goodIn_r _ [48, 2, 14, 15, 16, 10, 17, 12, 18, 13, 19, 20, 21, 22, 23, 77, 78, 79, 80, 81, 82, 83, 84, 85, 86] (by decide +kernel) (by decide +kernel)
set_option maxRecDepth 20000 in
theorem gX2_putBlock_X2_putSummedSize : GoodIn wsX2_putBlock (wsV RX2 122 RX2 yX2_putSummedSize wsX2_putSummedSize) := goodIn_app (goodIn_of _ (by decide +kernel)) ggX2_putBlock_X2_putSummedSize
set_option maxRecDepth 20000 in
theorem ggX2_putBlock_X2_putSize : GoodIn wsX2_putBlock wsX2_putSize := goodIn_r _ [51, 52, 53, 54, 55, 56, 24, 25, 26, 10, 27, 28, 15, 16, 17, 12, 18, 13, 19, 20, 21, 22, 23, 83, 84, 85, 86] (by decide +kernel) (by decide +kernel)
set_option maxRecDepth 20000 in
theorem gX2_putBlock_X2_putSize : GoodIn wsX2_putBlock (va_wsS RX2 112 yX2_putSize wsX2_putSize) := goodIn_app (goodIn_of _ (by decide +kernel)) ggX2_putBlock_X2_putSize
set_option maxRecDepth 20000 in
theorem ggX2_putBlock_X2_putDifference : GoodIn wsX2_putBlock wsX2_putDifference := goodIn_r _ [60, 61, 62, 63, 64, 2, 65, 66, 54, 67, 24, 25, 26, 10, 27, 28, 15, 16, 17, 12, 18, 13, 19, 20, 21, 22, 23, 77, 78, 79, 80, 81, 82, 83, 84, 85, 86] (by decide +kernel) (by decide +kernel)
set_option maxRecDepth 20000 in
theorem gX2_putBlock_X2_putDifference : GoodIn wsX2_putBlock (wsV RX2 125 RX2 yX2_putDifference wsX2_putDifference) := goodIn_app (goodIn_of _ (by decide +kernel)) ggX2_putBlock_X2_putDifference
set_option maxRecDepth 20000 in
theorem ggX2_putBlock_X4_beginOf : GoodIn wsX2_putBlock wsX4_beginOf := goodIn_r _ [43, 34, 35, 36, 37, 32, 38, 39, 87, 88, 89, 90] (by decide +kernel) (by decide +kernel)
set_option maxRecDepth 20000 in
theorem gX2_putBlock_X4_beginOf : GoodIn wsX2_putBlock (wsV RX2 128 RX4 yX4_beginOf wsX4_beginOf) := goodIn_app (goodIn_of _ (by decide +kernel)) ggX2_putBlock_X4_beginOf
set_option maxRecDepth 20000 in
theorem ggX2_putBlock_X8_addPart : GoodIn wsX2_putBlock wsX8_addPart := goodIn_r _ [72, 73, 74, 75, 10, 76, 12, 23, 28, 15, 16, 17, 18, 13, 19, 20, 21, 22, 83, 84, 85, 86] (by decide +kernel) (by decide +kernel)
set_option maxRecDepth 20000 in
theorem gX2_putBlock_X8_addPart : GoodIn wsX2_putBlock (wsV RX2 131 RX8 yX8_addPart wsX8_addPart) := goodIn_app (goodIn_of _ (by decide +kernel)) ggX2_putBlock_X8_addPart
set_option maxRecDepth 20000 in
theorem ggX2_putSummedSize_X8_add : GoodIn wsX2_putSummedSize wsX8_add := goodIn_r _ [6, 7, 8, 9, 10, 11, 12, 5, 13, 14, 21, 22, 23, 24] (by decide +kernel) (by decide +kernel)
set_option maxRecDepth 20000 in
theorem gX2_putSummedSize_X8_add : GoodIn wsX2_putSummedSize (wsV RX2 59 RX8 yX8_add wsX8_add) := goodIn_app (goodIn_of _ (by decide +kernel)) ggX2_putSummedSize_X8_add
set_option maxRecDepth 20000 in
theorem ggX2_putDifference_X0_differenceShift : GoodIn wsX2_putDifference wsX0_differenceShift := goodIn_r _ [9] (by decide +kernel) (by decide +kernel)
set_option maxRecDepth 20000 in
theorem gX2_putDifference_X0_differenceShift : GoodIn wsX2_putDifference (va_wsS RX2 144 yX0_differenceShift wsX0_differenceShift) := goodIn_app (goodIn_of _ (by decide +kernel)) ggX2_putDifference_X0_differenceShift
set_option maxRecDepth 20000 in
theorem ggX2_putDifference_X8_addHighFirst : GoodIn wsX2_putDifference wsX8_addHighFirst := goodIn_r _ [14, 15, 16, 17, 13, 18, 19, 20, 21, 22, 23, 24, 25, 26, 33, 34, 35, 36] (by decide +kernel) (by decide +kernel)
set_option maxRecDepth 20000 in
theorem gX2_putDifference_X8_addHighFirst : GoodIn wsX2_putDifference (wsV RX2 100 RX8 yX8_addHighFirst wsX8_addHighFirst) := goodIn_app (goodIn_of _ (by decide +kernel)) ggX2_putDifference_X8_addHighFirst
set_option maxRecDepth 20000 in
theorem ggX2_putSize_X0_highestSize : GoodIn wsX2_putSize wsX0_highestSize := goodIn_r _ [4, 5] (by decide +kernel) (by decide +kernel)
set_option maxRecDepth 20000 in
theorem gX2_putSize_X0_highestSize : GoodIn wsX2_putSize (va_wsS RX2 147 yX0_highestSize wsX0_highestSize) := goodIn_app (goodIn_of _ (by decide +kernel)) ggX2_putSize_X0_highestSize
set_option maxRecDepth 20000 in
theorem ggX2_putSize_X8_addHighFirst : GoodIn wsX2_putSize wsX8_addHighFirst := goodIn_r _ [10, 11, 12, 13, 9, 14, 15, 16, 17, 18, 19, 20, 21, 22, 23, 24, 25, 26] (by decide +kernel) (by decide +kernel)
set_option maxRecDepth 20000 in
theorem gX2_putSize_X8_addHighFirst : GoodIn wsX2_putSize (wsV RX2 100 RX8 yX8_addHighFirst wsX8_addHighFirst) := goodIn_app (goodIn_of _ (by decide +kernel)) ggX2_putSize_X8_addHighFirst
set_option maxRecDepth 20000 in
theorem ggX4_init_X8_init : GoodIn wsX4_init wsX8_init := goodIn_r _ [14, 15, 2, 3, 16, 17, 18, 19, 20, 8, 21, 22, 23, 24, 25] (by decide +kernel) (by decide +kernel)
set_option maxRecDepth 20000 in
theorem gX4_init_X8_init : GoodIn wsX4_init (wsX8_init) := ggX4_init_X8_init
set_option maxRecDepth 20000 in
theorem ggX4_empty_X8_empty : GoodIn wsX4_empty wsX8_empty := goodIn_r _ [7, 8, 9, 14, 15, 16, 17] (by decide +kernel) (by decide +kernel)
set_option maxRecDepth 20000 in
theorem gX4_empty_X8_empty : GoodIn wsX4_empty (wsV RX4 32 RX8 yX8_empty wsX8_empty) := goodIn_app (goodIn_of _ (by decide +kernel)) ggX4_empty_X8_empty
set_option maxRecDepth 20000 in
theorem ggX4_beginOf_X4_holds : GoodIn wsX4_beginOf wsX4_holds := goodIn_r _ [6, 7, 8, 9, 10, 11] (by decide +kernel) (by decide +kernel)
set_option maxRecDepth 20000 in
theorem gX4_beginOf_X4_holds : GoodIn wsX4_beginOf (wsV RX4 35 RX4 yX4_holds wsX4_holds) := goodIn_app (goodIn_of _ (by decide +kernel)) ggX4_beginOf_X4_holds
set_option maxRecDepth 20000 in
theorem ggX4_bytesOf_X4_holds : GoodIn wsX4_bytesOf wsX4_holds := goodIn_r _ [6, 7, 12, 13, 14, 15] (by decide +kernel) (by decide +kernel)
set_option maxRecDepth 20000 in
theorem gX4_bytesOf_X4_holds : GoodIn wsX4_bytesOf (wsV RX4 35 RX4 yX4_holds wsX4_holds) := goodIn_app (goodIn_of _ (by decide +kernel)) ggX4_bytesOf_X4_holds
set_option maxRecDepth 20000 in
theorem ggX4_bytesOf_X4_beginOf : GoodIn wsX4_bytesOf wsX4_beginOf := goodIn_r _ [11, 1, 2, 3, 4, 5, 6, 7, 12, 13, 14, 15] (by decide +kernel) (by decide +kernel)
set_option maxRecDepth 20000 in
theorem gX4_bytesOf_X4_beginOf : GoodIn wsX4_bytesOf (wsV RX4 39 RX4 yX4_beginOf wsX4_beginOf) := goodIn_app (goodIn_of _ (by decide +kernel)) ggX4_bytesOf_X4_beginOf
set_option maxRecDepth 20000 in
theorem ggX4_byteOf_X4_bytesOf : GoodIn wsX4_byteOf wsX4_bytesOf := goodIn_r _ [6, 7, 8, 9, 10, 5, 11, 12, 13, 14, 15, 16, 24, 25, 26, 27] (by decide +kernel) (by decide +kernel)
set_option maxRecDepth 20000 in
theorem gX4_byteOf_X4_bytesOf : GoodIn wsX4_byteOf (wsV RX4 43 RX4 yX4_bytesOf wsX4_bytesOf) := goodIn_app (goodIn_of _ (by decide +kernel)) ggX4_byteOf_X4_bytesOf
set_option maxRecDepth 20000 in
theorem ggX4_byteOf_X4_beginOf : GoodIn wsX4_byteOf wsX4_beginOf := goodIn_r _ [16, 7, 8, 9, 10, 5, 11, 12, 24, 25, 26, 27] (by decide +kernel) (by decide +kernel)
set_option maxRecDepth 20000 in
theorem gX4_byteOf_X4_beginOf : GoodIn wsX4_byteOf (wsV RX4 39 RX4 yX4_beginOf wsX4_beginOf) := goodIn_app (goodIn_of _ (by decide +kernel)) ggX4_byteOf_X4_beginOf
set_option maxRecDepth 20000 in
theorem ggX4_byteOf_X8_at : GoodIn wsX4_byteOf wsX8_at := goodIn_r _ [21, 22, 23, 28, 29, 30, 31] (by decide +kernel) (by decide +kernel)
set_option maxRecDepth 20000 in
theorem gX4_byteOf_X8_at : GoodIn wsX4_byteOf (wsV RX4 46 RX8 yX8_at wsX8_at) := goodIn_app (goodIn_of _ (by decide +kernel)) ggX4_byteOf_X8_at
set_option maxRecDepth 20000 in
theorem ggX4_timeOf_X4_holds : GoodIn wsX4_timeOf wsX4_holds := goodIn_r _ [7, 8, 9, 10, 11, 12] (by decide +kernel) (by decide +kernel)
set_option maxRecDepth 20000 in
theorem gX4_timeOf_X4_holds : GoodIn wsX4_timeOf (wsV RX4 35 RX4 yX4_holds wsX4_holds) := goodIn_app (goodIn_of _ (by decide +kernel)) ggX4_timeOf_X4_holds
set_option maxRecDepth 20000 in
theorem ggX4_timeToWrite_X4_timeOf : GoodIn wsX4_timeToWrite wsX4_timeOf := goodIn_r _ [6, 7, 1, 8, 9, 10, 5, 11, 12, 13, 14, 15, 16] (by decide +kernel) (by decide +kernel)
set_option maxRecDepth 20000 in
theorem gX4_timeToWrite_X4_timeOf : GoodIn wsX4_timeToWrite (wsV RX4 51 RX4 yX4_timeOf wsX4_timeOf) := goodIn_app (goodIn_of _ (by decide +kernel)) ggX4_timeToWrite_X4_timeOf
set_option maxRecDepth 20000 in
theorem ggX4_isInOrderOfTime_X4_timeOf : GoodIn wsX4_isInOrderOfTime wsX4_timeOf := goodIn_r _ [11, 12, 1, 13, 14, 15, 10, 16, 2, 17, 18, 19, 20] (by decide +kernel) (by decide +kernel)
set_option maxRecDepth 20000 in
theorem gX4_isInOrderOfTime_X4_timeOf : GoodIn wsX4_isInOrderOfTime (wsV RX4 51 RX4 yX4_timeOf wsX4_timeOf) := goodIn_app (goodIn_of _ (by decide +kernel)) ggX4_isInOrderOfTime_X4_timeOf
set_option maxRecDepth 20000 in
theorem ggX5_isMarked_X8_highFirst : GoodIn wsX5_isMarked wsX8_highFirst := goodIn_r _ [6, 7, 8, 9, 5, 10, 11, 12, 13, 14, 15, 16] (by decide +kernel) (by decide +kernel)
set_option maxRecDepth 20000 in
theorem gX5_isMarked_X8_highFirst : GoodIn wsX5_isMarked (wsV RX5 9 RX8 yX8_highFirst wsX8_highFirst) := goodIn_app (goodIn_of _ (by decide +kernel)) ggX5_isMarked_X8_highFirst
set_option maxRecDepth 20000 in
theorem ggX5_endOf_X8_at : GoodIn wsX5_endOf wsX8_at := goodIn_r _ [5, 6, 7, 8, 9, 10, 11] (by decide +kernel) (by decide +kernel)
set_option maxRecDepth 20000 in
theorem gX5_endOf_X8_at : GoodIn wsX5_endOf (wsV RX5 18 RX8 yX8_at wsX8_at) := goodIn_app (goodIn_of _ (by decide +kernel)) ggX5_endOf_X8_at
set_option maxRecDepth 20000 in
theorem ggX5_sumOf_X8_at : GoodIn wsX5_sumOf wsX8_at := goodIn_r _ [6, 7, 8, 9, 10, 11, 12] (by decide +kernel) (by decide +kernel)
set_option maxRecDepth 20000 in
theorem gX5_sumOf_X8_at : GoodIn wsX5_sumOf (wsV RX5 18 RX8 yX8_at wsX8_at) := goodIn_app (goodIn_of _ (by decide +kernel)) ggX5_sumOf_X8_at
set_option maxRecDepth 20000 in
theorem ggX5_makeSumRight_X5_sumOf : GoodIn wsX5_makeSumRight wsX5_sumOf := goodIn_r _ [4, 5, 6, 7, 8, 9, 10, 11, 12, 17, 18, 19, 20] (by decide +kernel) (by decide +kernel)
set_option maxRecDepth 20000 in
theorem gX5_makeSumRight_X5_sumOf : GoodIn wsX5_makeSumRight (va_wsS RX5 26 yX5_sumOf wsX5_sumOf) := goodIn_app (goodIn_of _ (by decide +kernel)) ggX5_makeSumRight_X5_sumOf
set_option maxRecDepth 20000 in
theorem ggX5_makeSumRight_X8_change : GoodIn wsX5_makeSumRight wsX8_change := goodIn_r _ [16, 11, 12, 17, 18, 19, 20] (by decide +kernel) (by decide +kernel)
set_option maxRecDepth 20000 in
theorem gX5_makeSumRight_X8_change : GoodIn wsX5_makeSumRight (wsV RX5 30 RX8 yX8_change wsX8_change) := goodIn_app (goodIn_of _ (by decide +kernel)) ggX5_makeSumRight_X8_change
set_option maxRecDepth 20000 in
theorem ggX6_read_X6_faultOf : GoodIn wsX6_read wsX6_faultOf := goodIn_r _ [14, 2, 1, 5, 3, 15, 16, 17, 18, 19, 20, 21, 22, 23, 24, 25, 26, 27, 28, 29, 30, 31, 32, 33, 34, 35, 36, 37, 38, 39, 40, 41, 42, 13, 43, 44, 45, 46, 47, 48, 49, 50, 51, 6, 4, 52, 53, 54, 55, 56, 57, 58, 59, 60, 61, 7, 62, 63, 64, 65, 66, 67, 68, 69, 70, 100, 101, 102, 103, 104, 105, 106, 107, 108, 109, 110, 111, 112, 113, 114, 115, 116, 117] (by decide +kernel) (by decide +kernel)
set_option maxRecDepth 20000 in
theorem gX6_read_X6_faultOf : GoodIn wsX6_read (wsV RX6 43 RX6 yX6_faultOf wsX6_faultOf) := goodIn_app (goodIn_of _ (by decide +kernel)) ggX6_read_X6_faultOf
set_option maxRecDepth 20000 in
theorem ggX6_read_X6_takePage : GoodIn wsX6_read wsX6_takePage := goodIn_r _ [74, 1, 7, 3, 75, 5, 61, 6, 52, 4, 31, 26, 27, 23, 28, 29, 30, 53, 54, 55, 13, 56, 44, 45, 46, 47, 25, 76, 77, 78, 79, 80, 81, 82, 83, 84, 85, 86, 87, 88, 89, 90, 91, 92, 66, 93, 68, 94, 69, 70, 95, 40, 41, 42, 43, 100, 101, 102, 103, 104, 105, 106, 107, 108, 109, 114, 115, 116, 117, 110, 111, 112, 113] (by decide +kernel) (by decide +kernel)
set_option maxRecDepth 20000 in
theorem gX6_read_X6_takePage : GoodIn wsX6_read (wsV RX6 47 RX6 yX6_takePage wsX6_takePage) := goodIn_app (goodIn_of _ (by decide +kernel)) ggX6_read_X6_takePage
set_option maxRecDepth 20000 in
theorem ggX6_read_X6_faultAtEnd : GoodIn wsX6_read wsX6_faultAtEnd := goodIn_r _ [99, 4, 6, 5, 100, 101, 102, 103, 104, 105, 106, 107, 108, 109] (by decide +kernel) (by decide +kernel)
set_option maxRecDepth 20000 in
theorem gX6_read_X6_faultAtEnd : GoodIn wsX6_read (wsV RX6 50 RX6 yX6_faultAtEnd wsX6_faultAtEnd) := goodIn_app (goodIn_of _ (by decide +kernel)) ggX6_read_X6_faultAtEnd
set_option maxRecDepth 20000 in
theorem ggX6_faultOf_X5_isMarked : GoodIn wsX6_faultOf wsX5_isMarked := goodIn_r _ [8, 9, 10, 11, 12, 13, 14, 15, 16, 17, 18, 19, 20, 75, 76, 77, 78] (by decide +kernel) (by decide +kernel)
set_option maxRecDepth 20000 in
theorem gX6_faultOf_X5_isMarked : GoodIn wsX6_faultOf (va_wsS RX6 56 yX5_isMarked wsX5_isMarked) := goodIn_app (goodIn_of _ (by decide +kernel)) ggX6_faultOf_X5_isMarked
set_option maxRecDepth 20000 in
theorem ggX6_faultOf_X8_at : GoodIn wsX6_faultOf wsX8_at := goodIn_r _ [18, 19, 20, 75, 76, 77, 78] (by decide +kernel) (by decide +kernel)
set_option maxRecDepth 20000 in
theorem gX6_faultOf_X8_at : GoodIn wsX6_faultOf (wsV RX6 60 RX8 yX8_at wsX8_at) := goodIn_app (goodIn_of _ (by decide +kernel)) ggX6_faultOf_X8_at
set_option maxRecDepth 20000 in
theorem ggX6_faultOf_X5_endOf : GoodIn wsX6_faultOf wsX5_endOf := goodIn_r _ [24, 25, 16, 17, 13, 18, 19, 20, 75, 76, 77, 78] (by decide +kernel) (by decide +kernel)
set_option maxRecDepth 20000 in
theorem gX6_faultOf_X5_endOf : GoodIn wsX6_faultOf (va_wsS RX6 65 yX5_endOf wsX5_endOf) := goodIn_app (goodIn_of _ (by decide +kernel)) ggX6_faultOf_X5_endOf
set_option maxRecDepth 20000 in
theorem ggX6_faultOf_X5_sumOf : GoodIn wsX6_faultOf wsX5_sumOf := goodIn_r _ [28, 29, 25, 16, 17, 13, 18, 19, 20, 75, 76, 77, 78] (by decide +kernel) (by decide +kernel)
set_option maxRecDepth 20000 in
theorem gX6_faultOf_X5_sumOf : GoodIn wsX6_faultOf (va_wsS RX6 69 yX5_sumOf wsX5_sumOf) := goodIn_app (goodIn_of _ (by decide +kernel)) ggX6_faultOf_X5_sumOf
set_option maxRecDepth 20000 in
theorem ggX6_faultOf_X6_numberAt : GoodIn wsX6_faultOf wsX6_numberAt := goodIn_r _ [34, 2, 35, 36, 37, 13, 38, 15, 16, 17, 18, 19, 20, 65, 66, 67, 68, 69, 70, 71, 72, 73, 74, 75, 76, 77, 78] (by decide +kernel) (by decide +kernel)
set_option maxRecDepth 20000 in
theorem gX6_faultOf_X6_numberAt : GoodIn wsX6_faultOf (wsV RX6 72 RX6 yX6_numberAt wsX6_numberAt) := goodIn_app (goodIn_of _ (by decide +kernel)) ggX6_faultOf_X6_numberAt
set_option maxRecDepth 20000 in
theorem ggX6_faultOf_X6_isOutOfOrder : GoodIn wsX6_faultOf wsX6_isOutOfOrder := goodIn_r _ [42, 43, 44, 45, 30, 31, 32, 33, 34, 2, 35, 36, 37, 13, 38, 15, 16, 17, 18, 19, 20, 65, 66, 67, 68, 69, 70, 71, 72, 73, 74, 75, 76, 77, 78] (by decide +kernel) (by decide +kernel)
set_option maxRecDepth 20000 in
theorem gX6_faultOf_X6_isOutOfOrder : GoodIn wsX6_faultOf (wsV RX6 75 RX6 yX6_isOutOfOrder wsX6_isOutOfOrder) := goodIn_app (goodIn_of _ (by decide +kernel)) ggX6_faultOf_X6_isOutOfOrder
set_option maxRecDepth 20000 in
theorem ggX6_faultOf_X6_packetsEnding : GoodIn wsX6_faultOf wsX6_packetsEnding := goodIn_r _ [49, 2, 21, 16, 17, 13, 18, 19, 20, 65, 66, 67, 68, 69, 70, 71, 72, 73, 74, 75, 76, 77, 78] (by decide +kernel) (by decide +kernel)
set_option maxRecDepth 20000 in
theorem gX6_faultOf_X6_packetsEnding : GoodIn wsX6_faultOf (wsV RX6 79 RX6 yX6_packetsEnding wsX6_packetsEnding) := goodIn_app (goodIn_of _ (by decide +kernel)) ggX6_faultOf_X6_packetsEnding
set_option maxRecDepth 20000 in
theorem ggX6_faultOf_X8_lowFirst : GoodIn wsX6_faultOf wsX8_lowFirst := goodIn_r _ [38, 15, 16, 17, 13, 18, 19, 20, 75, 76, 77, 78] (by decide +kernel) (by decide +kernel)
set_option maxRecDepth 20000 in
theorem gX6_faultOf_X8_lowFirst : GoodIn wsX6_faultOf (wsV RX6 82 RX8 yX8_lowFirst wsX8_lowFirst) := goodIn_app (goodIn_of _ (by decide +kernel)) ggX6_faultOf_X8_lowFirst
set_option maxRecDepth 20000 in
theorem ggX6_faultOf_X6_isTimeWrong : GoodIn wsX6_faultOf wsX6_isTimeWrong := goodIn_r _ [53, 54, 55, 56, 65, 66, 67, 68, 69, 70, 71, 72, 73, 74] (by decide +kernel) (by decide +kernel)
set_option maxRecDepth 20000 in
theorem gX6_faultOf_X6_isTimeWrong : GoodIn wsX6_faultOf (wsV RX6 86 RX6 yX6_isTimeWrong wsX6_isTimeWrong) := goodIn_app (goodIn_of _ (by decide +kernel)) ggX6_faultOf_X6_isTimeWrong
set_option maxRecDepth 20000 in
theorem ggX6_faultOf_X4_hasRoom : GoodIn wsX6_faultOf wsX4_hasRoom := goodIn_r _ [61, 62, 63, 64, 79, 80, 81, 82, 75, 76, 77, 78] (by decide +kernel) (by decide +kernel)
set_option maxRecDepth 20000 in
theorem gX6_faultOf_X4_hasRoom : GoodIn wsX6_faultOf (wsV RX6 90 RX4 yX4_hasRoom wsX4_hasRoom) := goodIn_app (goodIn_of _ (by decide +kernel)) ggX6_faultOf_X4_hasRoom
set_option maxRecDepth 20000 in
theorem ggX6_numberAt_X8_lowFirst : GoodIn wsX6_numberAt wsX8_lowFirst := goodIn_r _ [6, 7, 8, 9, 5, 10, 11, 12, 23, 24, 25, 26] (by decide +kernel) (by decide +kernel)
set_option maxRecDepth 20000 in
theorem gX6_numberAt_X8_lowFirst : GoodIn wsX6_numberAt (wsV RX6 82 RX8 yX8_lowFirst wsX8_lowFirst) := goodIn_app (goodIn_of _ (by decide +kernel)) ggX6_numberAt_X8_lowFirst
set_option maxRecDepth 20000 in
theorem ggX6_isOutOfOrder_X6_numberAt : GoodIn wsX6_isOutOfOrder wsX6_numberAt := goodIn_r _ [8, 9, 10, 11, 12, 13, 14, 15, 16, 17, 18, 19, 20, 21, 22, 23, 24, 25, 26, 27, 28, 29, 30, 31, 32, 33, 34] (by decide +kernel) (by decide +kernel)
set_option maxRecDepth 20000 in
theorem gX6_isOutOfOrder_X6_numberAt : GoodIn wsX6_isOutOfOrder (wsV RX6 72 RX6 yX6_numberAt wsX6_numberAt) := goodIn_app (goodIn_of _ (by decide +kernel)) ggX6_isOutOfOrder_X6_numberAt
set_option maxRecDepth 20000 in
theorem ggX6_packetsEnding_X8_at : GoodIn wsX6_packetsEnding wsX8_at := goodIn_r _ [6, 7, 8, 19, 20, 21, 22] (by decide +kernel) (by decide +kernel)
set_option maxRecDepth 20000 in
theorem gX6_packetsEnding_X8_at : GoodIn wsX6_packetsEnding (wsV RX6 60 RX8 yX8_at wsX8_at) := goodIn_app (goodIn_of _ (by decide +kernel)) ggX6_packetsEnding_X8_at
set_option maxRecDepth 20000 in
theorem ggX6_takePage_X8_at : GoodIn wsX6_takePage wsX8_at := goodIn_r _ [14, 15, 16, 69, 70, 71, 72] (by decide +kernel) (by decide +kernel)
set_option maxRecDepth 20000 in
theorem gX6_takePage_X8_at : GoodIn wsX6_takePage (wsV RX6 60 RX8 yX8_at wsX8_at) := goodIn_app (goodIn_of _ (by decide +kernel)) ggX6_takePage_X8_at
set_option maxRecDepth 20000 in
theorem ggX6_takePage_X6_packetsEnding : GoodIn wsX6_takePage wsX6_packetsEnding := goodIn_r _ [21, 1, 10, 11, 12, 13, 14, 15, 16, 55, 56, 57, 58, 59, 60, 61, 62, 63, 64, 69, 70, 71, 72] (by decide +kernel) (by decide +kernel)
set_option maxRecDepth 20000 in
theorem gX6_takePage_X6_packetsEnding : GoodIn wsX6_takePage (wsV RX6 79 RX6 yX6_packetsEnding wsX6_packetsEnding) := goodIn_app (goodIn_of _ (by decide +kernel)) ggX6_takePage_X6_packetsEnding
set_option maxRecDepth 20000 in
theorem ggX6_takePage_X8_lowFirst : GoodIn wsX6_takePage wsX8_lowFirst := goodIn_r _ [25, 26, 11, 12, 13, 14, 15, 16, 69, 70, 71, 72] (by decide +kernel) (by decide +kernel)
set_option maxRecDepth 20000 in
theorem gX6_takePage_X8_lowFirst : GoodIn wsX6_takePage (wsV RX6 82 RX8 yX8_lowFirst wsX8_lowFirst) := goodIn_app (goodIn_of _ (by decide +kernel)) ggX6_takePage_X8_lowFirst
set_option maxRecDepth 20000 in
theorem ggX6_takePage_X8_addPart : GoodIn wsX6_takePage wsX8_addPart := goodIn_r _ [30, 26, 11, 12, 13, 14, 15, 16, 31, 32, 33, 34, 35, 36, 37, 38, 39, 40, 69, 70, 71, 72] (by decide +kernel) (by decide +kernel)
set_option maxRecDepth 20000 in
theorem gX6_takePage_X8_addPart : GoodIn wsX6_takePage (wsV RX6 105 RX8 yX8_addPart wsX8_addPart) := goodIn_app (goodIn_of _ (by decide +kernel)) ggX6_takePage_X8_addPart
set_option maxRecDepth 20000 in
theorem ggX6_takePage_X4_endPacket : GoodIn wsX6_takePage wsX4_endPacket := goodIn_r _ [45, 46, 47, 48, 49, 50, 65, 66, 67, 68, 69, 70, 71, 72] (by decide +kernel) (by decide +kernel)
set_option maxRecDepth 20000 in
theorem gX6_takePage_X4_endPacket : GoodIn wsX6_takePage (wsV RX6 109 RX4 yX4_endPacket wsX4_endPacket) := goodIn_app (goodIn_of _ (by decide +kernel)) ggX6_takePage_X4_endPacket
set_option maxRecDepth 20000 in
theorem ggX6_takePage_X6_numberAt : GoodIn wsX6_takePage wsX6_numberAt := goodIn_r _ [54, 1, 22, 23, 24, 13, 25, 26, 11, 12, 14, 15, 16, 55, 56, 57, 58, 59, 60, 61, 62, 63, 64, 69, 70, 71, 72] (by decide +kernel) (by decide +kernel)
set_option maxRecDepth 20000 in
theorem gX6_takePage_X6_numberAt : GoodIn wsX6_takePage (wsV RX6 72 RX6 yX6_numberAt wsX6_numberAt) := goodIn_app (goodIn_of _ (by decide +kernel)) ggX6_takePage_X6_numberAt
set_option maxRecDepth 20000 in
theorem ggX7_write_X7_beginPage : GoodIn wsX7_write wsX7_beginPage := goodIn_r _ [15, 8, 9, 10, 98, 99, 100, 101, 102, 103, 104, 105, 106, 107] (by decide +kernel) (by decide +kernel)
set_option maxRecDepth 20000 in
theorem gX7_write_X7_beginPage : GoodIn wsX7_write (wsV RX7 39 RX7 yX7_beginPage wsX7_beginPage) := goodIn_app (goodIn_of _ (by decide +kernel)) ggX7_write_X7_beginPage
set_option maxRecDepth 20000 in
theorem ggX7_write_X4_bytesOf : GoodIn wsX7_write wsX4_bytesOf := goodIn_r _ [20, 21, 22, 23, 24, 19, 25, 26, 27, 28, 29, 30, 108, 109, 110, 111] (by decide +kernel) (by decide +kernel)
set_option maxRecDepth 20000 in
theorem gX7_write_X4_bytesOf : GoodIn wsX7_write (wsV RX7 47 RX4 yX4_bytesOf wsX4_bytesOf) := goodIn_app (goodIn_of _ (by decide +kernel)) ggX7_write_X4_bytesOf
set_option maxRecDepth 20000 in
theorem ggX7_write_X7_addSegment : GoodIn wsX7_write wsX7_addSegment := goodIn_r _ [34, 8, 35, 98, 99, 100, 101, 102, 103, 104, 105, 106, 107] (by decide +kernel) (by decide +kernel)
set_option maxRecDepth 20000 in
theorem gX7_write_X7_addSegment : GoodIn wsX7_write (wsV RX7 51 RX7 yX7_addSegment wsX7_addSegment) := goodIn_app (goodIn_of _ (by decide +kernel)) ggX7_write_X7_addSegment
set_option maxRecDepth 20000 in
theorem ggX7_write_X7_endPage : GoodIn wsX7_write wsX7_endPage := goodIn_r _ [39, 2, 40, 5, 8, 35, 1, 41, 4, 6, 42, 43, 44, 14, 45, 46, 10, 47, 3, 48, 49, 50, 51, 52, 53, 54, 55, 56, 57, 58, 59, 60, 61, 62, 63, 64, 65, 66, 67, 68, 19, 69, 70, 71, 72, 73, 74, 75, 22, 23, 24, 25, 26, 76, 77, 78, 79, 80, 81, 82, 83, 84, 85, 86, 87, 88, 89, 90, 91, 92, 93, 94, 95, 96, 97, 11, 12, 13, 15, 9, 98, 99, 100, 101, 102, 103, 104, 105, 106, 107, 112, 113, 114, 115, 108, 109, 110, 111] (by decide +kernel) (by decide +kernel)
set_option maxRecDepth 20000 in
theorem gX7_write_X7_endPage : GoodIn wsX7_write (wsV RX7 58 RX7 yX7_endPage wsX7_endPage) := goodIn_app (goodIn_of _ (by decide +kernel)) ggX7_write_X7_endPage
set_option maxRecDepth 20000 in
theorem ggX7_endPage_X7_putHeader : GoodIn wsX7_endPage wsX7_putHeader := goodIn_r _ [14, 9, 8, 1, 15, 16, 17, 6, 18, 4, 19, 20, 21, 22, 23, 24, 25, 26, 27, 28, 29, 30, 31, 32, 33, 34, 35, 36, 37, 38, 39, 40, 41, 42, 43, 44, 45, 46, 47, 48, 49, 50, 51, 52, 53, 54, 55, 56, 80, 81, 82, 83, 84, 85, 86, 87, 88, 89, 90, 91, 92, 93, 94, 95, 96, 97] (by decide +kernel) (by decide +kernel)
set_option maxRecDepth 20000 in
theorem gX7_endPage_X7_putHeader : GoodIn wsX7_endPage (wsV RX7 73 RX7 yX7_putHeader wsX7_putHeader) := goodIn_app (goodIn_of _ (by decide +kernel)) ggX7_endPage_X7_putHeader
set_option maxRecDepth 20000 in
theorem ggX7_endPage_X8_add : GoodIn wsX7_endPage wsX8_add := goodIn_r _ [27, 28, 29, 30, 31, 32, 33, 22, 34, 35, 90, 91, 92, 93] (by decide +kernel) (by decide +kernel)
set_option maxRecDepth 20000 in
theorem gX7_endPage_X8_add : GoodIn wsX7_endPage (wsV RX7 77 RX8 yX8_add wsX8_add) := goodIn_app (goodIn_of _ (by decide +kernel)) ggX7_endPage_X8_add
set_option maxRecDepth 20000 in
theorem ggX7_endPage_X8_addPart : GoodIn wsX7_endPage wsX8_addPart := goodIn_r _ [60, 61, 62, 63, 22, 64, 28, 35, 24, 25, 26, 27, 29, 30, 31, 32, 33, 34, 90, 91, 92, 93] (by decide +kernel) (by decide +kernel)
set_option maxRecDepth 20000 in
theorem gX7_endPage_X8_addPart : GoodIn wsX7_endPage (wsV RX7 83 RX8 yX8_addPart wsX8_addPart) := goodIn_app (goodIn_of _ (by decide +kernel)) ggX7_endPage_X8_addPart
set_option maxRecDepth 20000 in
theorem ggX7_endPage_X5_makeSumRight : GoodIn wsX7_endPage wsX5_makeSumRight := goodIn_r _ [68, 69, 70, 67, 71, 72, 73, 62, 63, 22, 64, 28, 35, 74, 32, 33, 34, 90, 91, 92, 93] (by decide +kernel) (by decide +kernel)
set_option maxRecDepth 20000 in
theorem gX7_endPage_X5_makeSumRight : GoodIn wsX7_endPage (va_wsS RX7 87 yX5_makeSumRight wsX5_makeSumRight) := goodIn_app (goodIn_of _ (by decide +kernel)) ggX7_endPage_X5_makeSumRight
set_option maxRecDepth 20000 in
theorem ggX7_endPage_X7_beginPage : GoodIn wsX7_endPage wsX7_beginPage := goodIn_r _ [78, 4, 79, 16, 80, 81, 82, 83, 84, 85, 86, 87, 88, 89] (by decide +kernel) (by decide +kernel)
set_option maxRecDepth 20000 in
theorem gX7_endPage_X7_beginPage : GoodIn wsX7_endPage (wsV RX7 39 RX7 yX7_beginPage wsX7_beginPage) := goodIn_app (goodIn_of _ (by decide +kernel)) ggX7_endPage_X7_beginPage
set_option maxRecDepth 20000 in
theorem ggX7_putHeader_X8_addHighFirst : GoodIn wsX7_putHeader wsX8_addHighFirst := goodIn_r _ [14, 15, 16, 17, 13, 18, 19, 20, 21, 22, 23, 24, 25, 26, 58, 59, 60, 61] (by decide +kernel) (by decide +kernel)
set_option maxRecDepth 20000 in
theorem gX7_putHeader_X8_addHighFirst : GoodIn wsX7_putHeader (wsV RX7 92 RX8 yX8_addHighFirst wsX8_addHighFirst) := goodIn_app (goodIn_of _ (by decide +kernel)) ggX7_putHeader_X8_addHighFirst
set_option maxRecDepth 20000 in
theorem ggX7_putHeader_X8_add : GoodIn wsX7_putHeader wsX8_add := goodIn_r _ [18, 19, 20, 21, 22, 23, 24, 13, 25, 26, 58, 59, 60, 61] (by decide +kernel) (by decide +kernel)
set_option maxRecDepth 20000 in
theorem gX7_putHeader_X8_add : GoodIn wsX7_putHeader (wsV RX7 77 RX8 yX8_add wsX8_add) := goodIn_app (goodIn_of _ (by decide +kernel)) ggX7_putHeader_X8_add
set_option maxRecDepth 20000 in
theorem ggX7_putHeader_X4_timeToWrite : GoodIn wsX7_putHeader wsX4_timeToWrite := goodIn_r _ [32, 33, 34, 35, 36, 31, 37, 38, 39, 40, 41, 42, 43, 62, 63, 64, 65] (by decide +kernel) (by decide +kernel)
set_option maxRecDepth 20000 in
theorem gX7_putHeader_X4_timeToWrite : GoodIn wsX7_putHeader (wsV RX7 98 RX4 yX4_timeToWrite wsX4_timeToWrite) := goodIn_app (goodIn_of _ (by decide +kernel)) ggX7_putHeader_X4_timeToWrite
set_option maxRecDepth 20000 in
theorem ggX7_putHeader_X8_addLowFirst : GoodIn wsX7_putHeader wsX8_addLowFirst := goodIn_r _ [47, 15, 16, 17, 13, 18, 19, 20, 21, 22, 23, 24, 25, 26, 58, 59, 60, 61] (by decide +kernel) (by decide +kernel)
set_option maxRecDepth 20000 in
theorem gX7_putHeader_X8_addLowFirst : GoodIn wsX7_putHeader (wsV RX7 102 RX8 yX8_addLowFirst wsX8_addLowFirst) := goodIn_app (goodIn_of _ (by decide +kernel)) ggX7_putHeader_X8_addLowFirst
set_option maxRecDepth 20000 in
theorem ggX8_add_X8_change : GoodIn wsX8_add wsX8_change := goodIn_r _ [8, 1, 9, 10, 11, 12, 13] (by decide +kernel) (by decide +kernel)
set_option maxRecDepth 20000 in
theorem gX8_add_X8_change : GoodIn wsX8_add (wsV RX8 32 RX8 yX8_change wsX8_change) := goodIn_app (goodIn_of _ (by decide +kernel)) ggX8_add_X8_change
set_option maxRecDepth 20000 in
theorem ggX8_addHighFirst_X8_add : GoodIn wsX8_addHighFirst wsX8_add := goodIn_r _ [5, 6, 7, 8, 9, 10, 11, 4, 12, 13, 14, 15, 16, 17] (by decide +kernel) (by decide +kernel)
set_option maxRecDepth 20000 in
theorem gX8_addHighFirst_X8_add : GoodIn wsX8_addHighFirst (wsV RX8 36 RX8 yX8_add wsX8_add) := goodIn_app (goodIn_of _ (by decide +kernel)) ggX8_addHighFirst_X8_add
set_option maxRecDepth 20000 in
theorem ggX8_addLowFirst_X8_add : GoodIn wsX8_addLowFirst wsX8_add := goodIn_r _ [5, 6, 7, 8, 9, 10, 11, 4, 12, 13, 14, 15, 16, 17] (by decide +kernel) (by decide +kernel)
set_option maxRecDepth 20000 in
theorem gX8_addLowFirst_X8_add : GoodIn wsX8_addLowFirst (wsV RX8 36 RX8 yX8_add wsX8_add) := goodIn_app (goodIn_of _ (by decide +kernel)) ggX8_addLowFirst_X8_add
set_option maxRecDepth 20000 in
theorem ggX8_addEach_X8_add : GoodIn wsX8_addEach wsX8_add := goodIn_r _ [5, 6, 7, 8, 9, 10, 11, 4, 12, 13, 14, 15, 16, 17] (by decide +kernel) (by decide +kernel)
set_option maxRecDepth 20000 in
theorem gX8_addEach_X8_add : GoodIn wsX8_addEach (wsV RX8 36 RX8 yX8_add wsX8_add) := goodIn_app (goodIn_of _ (by decide +kernel)) ggX8_addEach_X8_add
set_option maxRecDepth 20000 in
theorem ggX8_addPart_X8_at : GoodIn wsX8_addPart wsX8_at := goodIn_r _ [5, 6, 7, 18, 19, 20, 21] (by decide +kernel) (by decide +kernel)
set_option maxRecDepth 20000 in
theorem gX8_addPart_X8_at : GoodIn wsX8_addPart (wsV RX8 40 RX8 yX8_at wsX8_at) := goodIn_app (goodIn_of _ (by decide +kernel)) ggX8_addPart_X8_at
