/-! ===== BEGIN words of one list among another's, by their places ===== -/
theorem goodIn_r {big : List Cond} (ws : List Cond) (ps : List Nat) (hp : ws = ps.filterMap (fun i => big[i]?)) (h : ws.all goodWord = true) : GoodIn big ws := by
  intro w hw
  have h1 := List.all_eq_true.mp h w hw
  rw [hp] at hw
  obtain ⟨i, -, hi⟩ := List.mem_filterMap.mp hw
  have hm : w ∈ big := by first | exact List.mem_of_getElem? hi | exact List.getElem?_mem hi
  exact ⟨hm, good_of_word h1⟩
theorem goodIn_app {big a b : List Cond} (ha : GoodIn big a) (hb : GoodIn big b) : GoodIn big (a ++ b) := fun w h => (List.mem_append.mp h).elim (ha w) (hb w)
theorem goodIn_ca {big a b : List Cond} {c : Cond} (ha : GoodIn big (c :: a)) (hb : GoodIn big b) : GoodIn big (c :: (a ++ b)) := fun w h => (List.mem_cons.mp h).elim (fun e => ha w (List.mem_cons.mpr (Or.inl e))) (fun h => (List.mem_append.mp h).elim (fun h => ha w (List.mem_cons.mpr (Or.inr h))) (hb w))
theorem goodIn_sub {big ws : List Cond} (hm : ∀ w ∈ ws, w ∈ big) (h : ws.all goodWord = true) : GoodIn big ws := fun w hw => ⟨hm w hw, good_of_word (List.all_eq_true.mp h w hw)⟩
/-! ===== END ===== -/

/-! ===== BEGIN printed: names, fields, word lists, decode rows ===== -/
def RX0 : String := "StreamRemuxer$ElementForm"
def TX0 : u_T := fun k => match k with
  | _ => ("", "", "", false)
def tyX0 : Nat → FieldType := fun k => match k with
  | _ => .int
abbrev wsX00 : List Cond := u_ws RX0 TX0 0
theorem nmX0 : ∀ a, a < 0 → ∀ b, b < 0 → a ≠ b → (TX0 a).2.1 ≠ (TX0 b).2.1 := by decide +kernel
theorem tyX0_ok : ∀ k, k < 0 → parseFieldDescriptor (TX0 k).2.2.1 = some (tyX0 k) := by decide +kernel
abbrev cX0_highestSize : ByteArray := prog_2_method_2_code
def yX0_highestSize : MethodName := ⟨RX0, "highestSize", "(I)J"⟩
abbrev cX0_differenceShift : ByteArray := prog_2_method_3_code
def yX0_differenceShift : MethodName := ⟨RX0, "differenceShift", "(I)J"⟩
def RX1 : String := "StreamRemuxer$ElementReader"
def TX1 : u_T := fun k => match k with
  | 0 => ("StreamRemuxer$ElementReader", "fault", "I", false)
  | 1 => ("StreamRemuxer$ElementReader", "place", "I", false)
  | 2 => ("StreamRemuxer$ElementReader", "clusters", "I", false)
  | 3 => ("StreamRemuxer$ElementReader", "blocks", "I", false)
  | 4 => ("StreamRemuxer$ElementReader", "lacedSizes", "[I", true)
  | 5 => ("StreamRemuxer$ElementReader", "levels", "[LStreamRemuxer$Level;", true)
  | 6 => ("StreamRemuxer$ElementReader", "depth", "I", false)
  | 7 => ("StreamRemuxer$ElementReader", "file", "LStreamRemuxer$Row;", false)
  | 8 => ("StreamRemuxer$ElementReader", "target", "LStreamRemuxer$PacketList;", false)
  | 9 => ("StreamRemuxer$ElementReader", "trackNumber", "J", false)
  | 10 => ("StreamRemuxer$ElementReader", "clusterTime", "J", false)
  | 11 => ("StreamRemuxer$ElementReader", "bodySize", "J", false)
  | _ => ("StreamRemuxer$ElementReader", "lacingAt", "I", false)
def tyX1 : Nat → FieldType := fun k => match k with
  | 0 => .int
  | 1 => .int
  | 2 => .int
  | 3 => .int
  | 4 => .array .int
  | 5 => .array (.object "StreamRemuxer$Level")
  | 6 => .int
  | 7 => .object "StreamRemuxer$Row"
  | 8 => .object "StreamRemuxer$PacketList"
  | 9 => .long
  | 10 => .long
  | 11 => .long
  | _ => .int
abbrev wsX10 : List Cond := u_ws RX1 TX1 13
theorem nmX1 : ∀ a, a < 13 → ∀ b, b < 13 → a ≠ b → (TX1 a).2.1 ≠ (TX1 b).2.1 := by decide +kernel
theorem tyX1_ok : ∀ k, k < 13 → parseFieldDescriptor (TX1 k).2.2.1 = some (tyX1 k) := by decide +kernel
abbrev cX1_init : ByteArray := prog_3_method_1_code
def yX1_init : MethodName := ⟨RX1, "<init>", "()V"⟩
abbrev cX1_read : ByteArray := prog_3_method_2_code
def yX1_read : MethodName := ⟨RX1, "read", "(LStreamRemuxer$Row;ILStreamRemuxer$PacketList;)V"⟩
abbrev cX1_fail : ByteArray := prog_3_method_3_code
def yX1_fail : MethodName := ⟨RX1, "fail", "(II)I"⟩
abbrev cX1_openLevel : ByteArray := prog_3_method_4_code
def yX1_openLevel : MethodName := ⟨RX1, "openLevel", "(IIII)I"⟩
abbrev cX1_closeLevel : ByteArray := prog_3_method_5_code
def yX1_closeLevel : MethodName := ⟨RX1, "closeLevel", "(LStreamRemuxer$Level;I)I"⟩
abbrev cX1_readElement : ByteArray := prog_3_method_6_code
def yX1_readElement : MethodName := ⟨RX1, "readElement", "(LStreamRemuxer$Level;I)I"⟩
abbrev cX1_column : ByteArray := prog_3_method_7_code
def yX1_column : MethodName := ⟨RX1, "column", "(II)J"⟩
abbrev cX1_rowOf : ByteArray := prog_3_method_8_code
def yX1_rowOf : MethodName := ⟨RX1, "rowOf", "(II)I"⟩
abbrev cX1_lacksSome : ByteArray := prog_3_method_9_code
def yX1_lacksSome : MethodName := ⟨RX1, "lacksSome", "(II)Z"⟩
abbrev cX1_mayStand : ByteArray := prog_3_method_10_code
def yX1_mayStand : MethodName := ⟨RX1, "mayStand", "(II)Z"⟩
abbrev cX1_isSeen : ByteArray := prog_3_method_11_code
def yX1_isSeen : MethodName := ⟨RX1, "isSeen", "(III)Z"⟩
abbrev cX1_markedWidth : ByteArray := prog_3_method_12_code
def yX1_markedWidth : MethodName := ⟨RX1, "markedWidth", "(I)I"⟩
abbrev cX1_readId : ByteArray := prog_3_method_13_code
def yX1_readId : MethodName := ⟨RX1, "readId", "(II)I"⟩
abbrev cX1_sizeWidth : ByteArray := prog_3_method_14_code
def yX1_sizeWidth : MethodName := ⟨RX1, "sizeWidth", "(II)I"⟩
abbrev cX1_sizeNumber : ByteArray := prog_3_method_15_code
def yX1_sizeNumber : MethodName := ⟨RX1, "sizeNumber", "(II)J"⟩
abbrev cX1_readSize : ByteArray := prog_3_method_16_code
def yX1_readSize : MethodName := ⟨RX1, "readSize", "(IIII)I"⟩
abbrev cX1_readUint : ByteArray := prog_3_method_17_code
def yX1_readUint : MethodName := ⟨RX1, "readUint", "(IIII)I"⟩
abbrev cX1_isDocumentName : ByteArray := prog_3_method_18_code
def yX1_isDocumentName : MethodName := ⟨RX1, "isDocumentName", "(II)Z"⟩
abbrev cX1_readBlock : ByteArray := prog_3_method_19_code
def yX1_readBlock : MethodName := ⟨RX1, "readBlock", "(IIII)I"⟩
abbrev cX1_takePackets : ByteArray := prog_3_method_20_code
def yX1_takePackets : MethodName := ⟨RX1, "takePackets", "(IJ)V"⟩
abbrev cX1_readLacing : ByteArray := prog_3_method_21_code
def yX1_readLacing : MethodName := ⟨RX1, "readLacing", "(III)I"⟩
abbrev cX1_shareAlike : ByteArray := prog_3_method_22_code
def yX1_shareAlike : MethodName := ⟨RX1, "shareAlike", "(II)I"⟩
abbrev cX1_readSummedSize : ByteArray := prog_3_method_23_code
def yX1_readSummedSize : MethodName := ⟨RX1, "readSummedSize", "(I)J"⟩
abbrev cX1_readSizeOrDifference : ByteArray := prog_3_method_24_code
def yX1_readSizeOrDifference : MethodName := ⟨RX1, "readSizeOrDifference", "(II)J"⟩
def RX2 : String := "StreamRemuxer$ElementWriter"
def TX2 : u_T := fun k => match k with
  | 0 => ("StreamRemuxer$ElementWriter", "blockHeader", "LStreamRemuxer$Row;", true)
  | 1 => ("StreamRemuxer$ElementWriter", "source", "LStreamRemuxer$PacketList;", false)
  | 2 => ("StreamRemuxer$ElementWriter", "target", "LStreamRemuxer$Row;", false)
  | 3 => ("StreamRemuxer$ElementWriter", "lace", "I", false)
  | 4 => ("StreamRemuxer$ElementWriter", "mostPackets", "I", false)
  | _ => ("StreamRemuxer$ElementWriter", "unknownSizes", "Z", false)
def tyX2 : Nat → FieldType := fun k => match k with
  | 0 => .object "StreamRemuxer$Row"
  | 1 => .object "StreamRemuxer$PacketList"
  | 2 => .object "StreamRemuxer$Row"
  | 3 => .int
  | 4 => .int
  | _ => .boolean
abbrev wsX20 : List Cond := u_ws RX2 TX2 6
theorem nmX2 : ∀ a, a < 6 → ∀ b, b < 6 → a ≠ b → (TX2 a).2.1 ≠ (TX2 b).2.1 := by decide +kernel
theorem tyX2_ok : ∀ k, k < 6 → parseFieldDescriptor (TX2 k).2.2.1 = some (tyX2 k) := by decide +kernel
abbrev cX2_init : ByteArray := prog_4_method_1_code
def yX2_init : MethodName := ⟨RX2, "<init>", "()V"⟩
abbrev cX2_write : ByteArray := prog_4_method_2_code
def yX2_write : MethodName := ⟨RX2, "write", "(LStreamRemuxer$PacketList;LStreamRemuxer$Row;IIIZ)V"⟩
abbrev cX2_putClusters : ByteArray := prog_4_method_3_code
def yX2_putClusters : MethodName := ⟨RX2, "putClusters", "(I)V"⟩
abbrev cX2_fitsBlock : ByteArray := prog_4_method_4_code
def yX2_fitsBlock : MethodName := ⟨RX2, "fitsBlock", "(J)Z"⟩
abbrev cX2_beginLongElement : ByteArray := prog_4_method_5_code
def yX2_beginLongElement : MethodName := ⟨RX2, "beginLongElement", "(I)I"⟩
abbrev cX2_endLongElement : ByteArray := prog_4_method_6_code
def yX2_endLongElement : MethodName := ⟨RX2, "endLongElement", "(I)V"⟩
abbrev cX2_putClusterTime : ByteArray := prog_4_method_7_code
def yX2_putClusterTime : MethodName := ⟨RX2, "putClusterTime", "(J)V"⟩
abbrev cX2_packetsOfBlock : ByteArray := prog_4_method_8_code
def yX2_packetsOfBlock : MethodName := ⟨RX2, "packetsOfBlock", "(I)I"⟩
abbrev cX2_putBlock : ByteArray := prog_4_method_9_code
def yX2_putBlock : MethodName := ⟨RX2, "putBlock", "(IIJ)V"⟩
abbrev cX2_putSummedSize : ByteArray := prog_4_method_10_code
def yX2_putSummedSize : MethodName := ⟨RX2, "putSummedSize", "(I)V"⟩
abbrev cX2_putDifference : ByteArray := prog_4_method_11_code
def yX2_putDifference : MethodName := ⟨RX2, "putDifference", "(J)V"⟩
abbrev cX2_putSize : ByteArray := prog_4_method_12_code
def yX2_putSize : MethodName := ⟨RX2, "putSize", "(LStreamRemuxer$Row;J)V"⟩
def RX3 : String := "StreamRemuxer$Level"
def TX3 : u_T := fun k => match k with
  | 0 => ("StreamRemuxer$Level", "id", "I", false)
  | 1 => ("StreamRemuxer$Level", "missingPlace", "I", false)
  | 2 => ("StreamRemuxer$Level", "end", "I", false)
  | 3 => ("StreamRemuxer$Level", "seen", "I", false)
  | _ => ("StreamRemuxer$Level", "tillCluster", "Z", false)
def tyX3 : Nat → FieldType := fun k => match k with
  | 0 => .int
  | 1 => .int
  | 2 => .int
  | 3 => .int
  | _ => .boolean
abbrev wsX30 : List Cond := u_ws RX3 TX3 5
theorem nmX3 : ∀ a, a < 5 → ∀ b, b < 5 → a ≠ b → (TX3 a).2.1 ≠ (TX3 b).2.1 := by decide +kernel
theorem tyX3_ok : ∀ k, k < 5 → parseFieldDescriptor (TX3 k).2.2.1 = some (tyX3 k) := by decide +kernel
abbrev cX3_init : ByteArray := prog_5_method_1_code
def yX3_init : MethodName := ⟨RX3, "<init>", "()V"⟩
def RX4 : String := "StreamRemuxer$PacketList"
def TX4 : u_T := fun k => match k with
  | 0 => ("StreamRemuxer$PacketList", "bytes", "LStreamRemuxer$Row;", true)
  | 1 => ("StreamRemuxer$PacketList", "ends", "[I", true)
  | 2 => ("StreamRemuxer$PacketList", "times", "[J", true)
  | _ => ("StreamRemuxer$PacketList", "packets", "I", false)
def tyX4 : Nat → FieldType := fun k => match k with
  | 0 => .object "StreamRemuxer$Row"
  | 1 => .array .int
  | 2 => .array .long
  | _ => .int
abbrev wsX40 : List Cond := u_ws RX4 TX4 4
theorem nmX4 : ∀ a, a < 4 → ∀ b, b < 4 → a ≠ b → (TX4 a).2.1 ≠ (TX4 b).2.1 := by decide +kernel
theorem tyX4_ok : ∀ k, k < 4 → parseFieldDescriptor (TX4 k).2.2.1 = some (tyX4 k) := by decide +kernel
abbrev cX4_init : ByteArray := prog_6_method_1_code
def yX4_init : MethodName := ⟨RX4, "<init>", "()V"⟩
abbrev cX4_empty : ByteArray := prog_6_method_2_code
def yX4_empty : MethodName := ⟨RX4, "empty", "()V"⟩
abbrev cX4_holds : ByteArray := prog_6_method_3_code
def yX4_holds : MethodName := ⟨RX4, "holds", "(I)Z"⟩
abbrev cX4_beginOf : ByteArray := prog_6_method_4_code
def yX4_beginOf : MethodName := ⟨RX4, "beginOf", "(I)I"⟩
abbrev cX4_bytesOf : ByteArray := prog_6_method_5_code
def yX4_bytesOf : MethodName := ⟨RX4, "bytesOf", "(I)I"⟩
abbrev cX4_byteOf : ByteArray := prog_6_method_6_code
def yX4_byteOf : MethodName := ⟨RX4, "byteOf", "(II)I"⟩
abbrev cX4_timeOf : ByteArray := prog_6_method_7_code
def yX4_timeOf : MethodName := ⟨RX4, "timeOf", "(I)J"⟩
abbrev cX4_timeToWrite : ByteArray := prog_6_method_8_code
def yX4_timeToWrite : MethodName := ⟨RX4, "timeToWrite", "(I)J"⟩
abbrev cX4_isInOrderOfTime : ByteArray := prog_6_method_9_code
def yX4_isInOrderOfTime : MethodName := ⟨RX4, "isInOrderOfTime", "()Z"⟩
abbrev cX4_hasRoom : ByteArray := prog_6_method_10_code
def yX4_hasRoom : MethodName := ⟨RX4, "hasRoom", "(II)Z"⟩
abbrev cX4_endPacket : ByteArray := prog_6_method_11_code
def yX4_endPacket : MethodName := ⟨RX4, "endPacket", "(J)V"⟩
def RX5 : String := "StreamRemuxer$PageForm"
def TX5 : u_T := fun k => match k with
  | _ => ("", "", "", false)
def tyX5 : Nat → FieldType := fun k => match k with
  | _ => .int
abbrev wsX50 : List Cond := u_ws RX5 TX5 0
theorem nmX5 : ∀ a, a < 0 → ∀ b, b < 0 → a ≠ b → (TX5 a).2.1 ≠ (TX5 b).2.1 := by decide +kernel
theorem tyX5_ok : ∀ k, k < 0 → parseFieldDescriptor (TX5 k).2.2.1 = some (tyX5 k) := by decide +kernel
abbrev cX5_isMarked : ByteArray := prog_7_method_2_code
def yX5_isMarked : MethodName := ⟨RX5, "isMarked", "(LStreamRemuxer$Row;I)Z"⟩
abbrev cX5_endOf : ByteArray := prog_7_method_3_code
def yX5_endOf : MethodName := ⟨RX5, "endOf", "(LStreamRemuxer$Row;II)I"⟩
abbrev cX5_sumOf : ByteArray := prog_7_method_4_code
def yX5_sumOf : MethodName := ⟨RX5, "sumOf", "(LStreamRemuxer$Row;II)I"⟩
abbrev cX5_makeSumRight : ByteArray := prog_7_method_5_code
def yX5_makeSumRight : MethodName := ⟨RX5, "makeSumRight", "(LStreamRemuxer$Row;II)V"⟩
def RX6 : String := "StreamRemuxer$PageReader"
def TX6 : u_T := fun k => match k with
  | 0 => ("StreamRemuxer$PageReader", "fault", "I", false)
  | 1 => ("StreamRemuxer$PageReader", "place", "I", false)
  | 2 => ("StreamRemuxer$PageReader", "pageCount", "I", false)
  | 3 => ("StreamRemuxer$PageReader", "file", "LStreamRemuxer$Row;", false)
  | 4 => ("StreamRemuxer$PageReader", "limit", "I", false)
  | 5 => ("StreamRemuxer$PageReader", "target", "LStreamRemuxer$PacketList;", false)
  | 6 => ("StreamRemuxer$PageReader", "packetIsOpen", "Z", false)
  | 7 => ("StreamRemuxer$PageReader", "lastWasRead", "Z", false)
  | 8 => ("StreamRemuxer$PageReader", "serial", "I", false)
  | _ => ("StreamRemuxer$PageReader", "latestTime", "J", false)
def tyX6 : Nat → FieldType := fun k => match k with
  | 0 => .int
  | 1 => .int
  | 2 => .int
  | 3 => .object "StreamRemuxer$Row"
  | 4 => .int
  | 5 => .object "StreamRemuxer$PacketList"
  | 6 => .boolean
  | 7 => .boolean
  | 8 => .int
  | _ => .long
abbrev wsX60 : List Cond := u_ws RX6 TX6 10
theorem nmX6 : ∀ a, a < 10 → ∀ b, b < 10 → a ≠ b → (TX6 a).2.1 ≠ (TX6 b).2.1 := by decide +kernel
theorem tyX6_ok : ∀ k, k < 10 → parseFieldDescriptor (TX6 k).2.2.1 = some (tyX6 k) := by decide +kernel
abbrev cX6_init : ByteArray := prog_8_method_1_code
def yX6_init : MethodName := ⟨RX6, "<init>", "()V"⟩
abbrev cX6_read : ByteArray := prog_8_method_2_code
def yX6_read : MethodName := ⟨RX6, "read", "(LStreamRemuxer$Row;ILStreamRemuxer$PacketList;)V"⟩
abbrev cX6_faultAtEnd : ByteArray := prog_8_method_3_code
def yX6_faultAtEnd : MethodName := ⟨RX6, "faultAtEnd", "()I"⟩
abbrev cX6_faultOf : ByteArray := prog_8_method_4_code
def yX6_faultOf : MethodName := ⟨RX6, "faultOf", "(I)I"⟩
abbrev cX6_numberAt : ByteArray := prog_8_method_5_code
def yX6_numberAt : MethodName := ⟨RX6, "numberAt", "(I)I"⟩
abbrev cX6_isOutOfOrder : ByteArray := prog_8_method_6_code
def yX6_isOutOfOrder : MethodName := ⟨RX6, "isOutOfOrder", "(II)Z"⟩
abbrev cX6_packetsEnding : ByteArray := prog_8_method_7_code
def yX6_packetsEnding : MethodName := ⟨RX6, "packetsEnding", "(I)I"⟩
abbrev cX6_isTimeWrong : ByteArray := prog_8_method_8_code
def yX6_isTimeWrong : MethodName := ⟨RX6, "isTimeWrong", "(JI)Z"⟩
abbrev cX6_takePage : ByteArray := prog_8_method_9_code
def yX6_takePage : MethodName := ⟨RX6, "takePage", "(I)I"⟩
def RX7 : String := "StreamRemuxer$PageWriter"
def TX7 : u_T := fun k => match k with
  | 0 => ("StreamRemuxer$PageWriter", "segmentSizes", "[I", true)
  | 1 => ("StreamRemuxer$PageWriter", "source", "LStreamRemuxer$PacketList;", false)
  | 2 => ("StreamRemuxer$PageWriter", "target", "LStreamRemuxer$Row;", false)
  | 3 => ("StreamRemuxer$PageWriter", "serial", "I", false)
  | 4 => ("StreamRemuxer$PageWriter", "number", "I", false)
  | 5 => ("StreamRemuxer$PageWriter", "segments", "I", false)
  | 6 => ("StreamRemuxer$PageWriter", "packetsEnded", "I", false)
  | 7 => ("StreamRemuxer$PageWriter", "lastEnded", "I", false)
  | 8 => ("StreamRemuxer$PageWriter", "written", "I", false)
  | _ => ("StreamRemuxer$PageWriter", "goesOn", "Z", false)
def tyX7 : Nat → FieldType := fun k => match k with
  | 0 => .array .int
  | 1 => .object "StreamRemuxer$PacketList"
  | 2 => .object "StreamRemuxer$Row"
  | 3 => .int
  | 4 => .int
  | 5 => .int
  | 6 => .int
  | 7 => .int
  | 8 => .int
  | _ => .boolean
abbrev wsX70 : List Cond := u_ws RX7 TX7 10
theorem nmX7 : ∀ a, a < 10 → ∀ b, b < 10 → a ≠ b → (TX7 a).2.1 ≠ (TX7 b).2.1 := by decide +kernel
theorem tyX7_ok : ∀ k, k < 10 → parseFieldDescriptor (TX7 k).2.2.1 = some (tyX7 k) := by decide +kernel
abbrev cX7_init : ByteArray := prog_9_method_1_code
def yX7_init : MethodName := ⟨RX7, "<init>", "()V"⟩
abbrev cX7_write : ByteArray := prog_9_method_2_code
def yX7_write : MethodName := ⟨RX7, "write", "(LStreamRemuxer$PacketList;LStreamRemuxer$Row;III)V"⟩
abbrev cX7_beginPage : ByteArray := prog_9_method_3_code
def yX7_beginPage : MethodName := ⟨RX7, "beginPage", "()V"⟩
abbrev cX7_addSegment : ByteArray := prog_9_method_4_code
def yX7_addSegment : MethodName := ⟨RX7, "addSegment", "(I)V"⟩
abbrev cX7_endPage : ByteArray := prog_9_method_5_code
def yX7_endPage : MethodName := ⟨RX7, "endPage", "(ZZ)V"⟩
abbrev cX7_putHeader : ByteArray := prog_9_method_6_code
def yX7_putHeader : MethodName := ⟨RX7, "putHeader", "(Z)V"⟩
def RX8 : String := "StreamRemuxer$Row"
def TX8 : u_T := fun k => match k with
  | 0 => ("StreamRemuxer$Row", "words", "[I", true)
  | 1 => ("StreamRemuxer$Row", "most", "I", true)
  | 2 => ("StreamRemuxer$Row", "length", "I", false)
  | _ => ("StreamRemuxer$Row", "overfull", "Z", false)
def tyX8 : Nat → FieldType := fun k => match k with
  | 0 => .array .int
  | 1 => .int
  | 2 => .int
  | _ => .boolean
abbrev wsX80 : List Cond := u_ws RX8 TX8 4
theorem nmX8 : ∀ a, a < 4 → ∀ b, b < 4 → a ≠ b → (TX8 a).2.1 ≠ (TX8 b).2.1 := by decide +kernel
theorem tyX8_ok : ∀ k, k < 4 → parseFieldDescriptor (TX8 k).2.2.1 = some (tyX8 k) := by decide +kernel
abbrev cX8_init : ByteArray := prog_10_method_1_code
def yX8_init : MethodName := ⟨RX8, "<init>", "(I)V"⟩
abbrev cX8_empty : ByteArray := prog_10_method_2_code
def yX8_empty : MethodName := ⟨RX8, "empty", "()V"⟩
abbrev cX8_at : ByteArray := prog_10_method_3_code
def yX8_at : MethodName := ⟨RX8, "at", "(I)I"⟩
abbrev cX8_change : ByteArray := prog_10_method_4_code
def yX8_change : MethodName := ⟨RX8, "change", "(II)Z"⟩
abbrev cX8_add : ByteArray := prog_10_method_5_code
def yX8_add : MethodName := ⟨RX8, "add", "(I)V"⟩
abbrev cX8_addHighFirst : ByteArray := prog_10_method_6_code
def yX8_addHighFirst : MethodName := ⟨RX8, "addHighFirst", "(JI)V"⟩
abbrev cX8_addLowFirst : ByteArray := prog_10_method_7_code
def yX8_addLowFirst : MethodName := ⟨RX8, "addLowFirst", "(JI)V"⟩
abbrev cX8_addEach : ByteArray := prog_10_method_8_code
def yX8_addEach : MethodName := ⟨RX8, "addEach", "([I)V"⟩
abbrev cX8_addPart : ByteArray := prog_10_method_9_code
def yX8_addPart : MethodName := ⟨RX8, "addPart", "(LStreamRemuxer$Row;II)V"⟩
abbrev cX8_becomeLike : ByteArray := prog_10_method_10_code
def yX8_becomeLike : MethodName := ⟨RX8, "becomeLike", "(LStreamRemuxer$Row;)V"⟩
abbrev cX8_highFirst : ByteArray := prog_10_method_11_code
def yX8_highFirst : MethodName := ⟨RX8, "highFirst", "(II)J"⟩
abbrev cX8_lowFirst : ByteArray := prog_10_method_12_code
def yX8_lowFirst : MethodName := ⟨RX8, "lowFirst", "(II)J"⟩
def RX9 : String := "StreamRemuxer"
def TX9 : u_T := fun k => match k with
  | 0 => ("StreamRemuxer", "tape", "LStreamRemuxer$Row;", true)
  | 1 => ("StreamRemuxer", "pageWriter", "LStreamRemuxer$PageWriter;", true)
  | 2 => ("StreamRemuxer", "pageReader", "LStreamRemuxer$PageReader;", true)
  | 3 => ("StreamRemuxer", "elementWriter", "LStreamRemuxer$ElementWriter;", true)
  | 4 => ("StreamRemuxer", "elementReader", "LStreamRemuxer$ElementReader;", true)
  | 5 => ("StreamRemuxer", "outRow", "LStreamRemuxer$Row;", false)
  | 6 => ("StreamRemuxer", "spareRow", "LStreamRemuxer$Row;", false)
  | 7 => ("StreamRemuxer", "list", "LStreamRemuxer$PacketList;", false)
  | 8 => ("StreamRemuxer", "spareList", "LStreamRemuxer$PacketList;", false)
  | 9 => ("StreamRemuxer", "fault", "I", false)
  | 10 => ("StreamRemuxer", "faultPlace", "I", false)
  | 11 => ("StreamRemuxer", "pagesRead", "I", false)
  | 12 => ("StreamRemuxer", "clustersRead", "I", false)
  | _ => ("StreamRemuxer", "blocksRead", "I", false)
def tyX9 : Nat → FieldType := fun k => match k with
  | 0 => .object "StreamRemuxer$Row"
  | 1 => .object "StreamRemuxer$PageWriter"
  | 2 => .object "StreamRemuxer$PageReader"
  | 3 => .object "StreamRemuxer$ElementWriter"
  | 4 => .object "StreamRemuxer$ElementReader"
  | 5 => .object "StreamRemuxer$Row"
  | 6 => .object "StreamRemuxer$Row"
  | 7 => .object "StreamRemuxer$PacketList"
  | 8 => .object "StreamRemuxer$PacketList"
  | 9 => .int
  | 10 => .int
  | 11 => .int
  | 12 => .int
  | _ => .int
abbrev wsX90 : List Cond := u_ws RX9 TX9 14
theorem nmX9 : ∀ a, a < 14 → ∀ b, b < 14 → a ≠ b → (TX9 a).2.1 ≠ (TX9 b).2.1 := by decide +kernel
theorem tyX9_ok : ∀ k, k < 14 → parseFieldDescriptor (TX9 k).2.2.1 = some (tyX9 k) := by decide +kernel
abbrev cX9_init : ByteArray := prog_1_method_1_code
def yX9_init : MethodName := ⟨RX9, "<init>", "()V"⟩
abbrev cX9_feed : ByteArray := prog_1_method_2_code
def yX9_feed : MethodName := ⟨RX9, "feed", "(IIIII)I"⟩
abbrev cX9_packet : ByteArray := prog_1_method_3_code
def yX9_packet : MethodName := ⟨RX9, "packet", "(IJ)I"⟩
abbrev cX9_clear : ByteArray := prog_1_method_4_code
def yX9_clear : MethodName := ⟨RX9, "clear", "()I"⟩
abbrev cX9_pages : ByteArray := prog_1_method_5_code
def yX9_pages : MethodName := ⟨RX9, "pages", "(III)I"⟩
abbrev cX9_elements : ByteArray := prog_1_method_6_code
def yX9_elements : MethodName := ⟨RX9, "elements", "(IIIZ)I"⟩
abbrev cX9_readPages : ByteArray := prog_1_method_7_code
def yX9_readPages : MethodName := ⟨RX9, "readPages", "(I)I"⟩
abbrev cX9_readElements : ByteArray := prog_1_method_8_code
def yX9_readElements : MethodName := ⟨RX9, "readElements", "(I)I"⟩
abbrev cX9_wrong : ByteArray := prog_1_method_9_code
def yX9_wrong : MethodName := ⟨RX9, "wrong", "(I)I"⟩
abbrev cX9_turn : ByteArray := prog_1_method_10_code
def yX9_turn : MethodName := ⟨RX9, "turn", "()I"⟩
abbrev cX9_count : ByteArray := prog_1_method_11_code
def yX9_count : MethodName := ⟨RX9, "count", "(I)I"⟩
abbrev cX9_size : ByteArray := prog_1_method_12_code
def yX9_size : MethodName := ⟨RX9, "size", "(I)I"⟩
abbrev cX9_time : ByteArray := prog_1_method_13_code
def yX9_time : MethodName := ⟨RX9, "time", "(I)J"⟩
abbrev cX9_octet : ByteArray := prog_1_method_14_code
def yX9_octet : MethodName := ⟨RX9, "octet", "(II)I"⟩
abbrev cX9_out : ByteArray := prog_1_method_15_code
def yX9_out : MethodName := ⟨RX9, "out", "(I)I"⟩
abbrev cX9_patch : ByteArray := prog_1_method_16_code
def yX9_patch : MethodName := ⟨RX9, "patch", "(II)Z"⟩
abbrev cX9_sum : ByteArray := prog_1_method_17_code
def yX9_sum : MethodName := ⟨RX9, "sum", "(I)Z"⟩
abbrev cX9_isOnTape : ByteArray := prog_1_method_18_code
def yX9_isOnTape : MethodName := ⟨RX9, "isOnTape", "(I)Z"⟩
abbrev cX9_takeSpareRow : ByteArray := prog_1_method_19_code
def yX9_takeSpareRow : MethodName := ⟨RX9, "takeSpareRow", "()I"⟩
abbrev cX9_takeSpareList : ByteArray := prog_1_method_20_code
def yX9_takeSpareList : MethodName := ⟨RX9, "takeSpareList", "()I"⟩
def RX10 : String := "StreamRemuxerModel"
def TX10 : u_T := fun k => match k with
  | 0 => ("StreamRemuxerModel", "tape", "[B", true)
  | 1 => ("StreamRemuxerModel", "out", "[B", true)
  | 2 => ("StreamRemuxerModel", "draft", "[B", true)
  | 3 => ("StreamRemuxerModel", "taped", "I", false)
  | 4 => ("StreamRemuxerModel", "outMany", "I", false)
  | 5 => ("StreamRemuxerModel", "drafted", "I", false)
  | 6 => ("StreamRemuxerModel", "full", "Z", false)
  | 7 => ("StreamRemuxerModel", "size", "[I", true)
  | 8 => ("StreamRemuxerModel", "readSize", "[I", true)
  | 9 => ("StreamRemuxerModel", "time", "[J", true)
  | 10 => ("StreamRemuxerModel", "readTime", "[J", true)
  | 11 => ("StreamRemuxerModel", "bytes", "[B", true)
  | 12 => ("StreamRemuxerModel", "readBytes", "[B", true)
  | 13 => ("StreamRemuxerModel", "many", "I", false)
  | 14 => ("StreamRemuxerModel", "total", "I", false)
  | 15 => ("StreamRemuxerModel", "readMany", "I", false)
  | 16 => ("StreamRemuxerModel", "readTotal", "I", false)
  | 17 => ("StreamRemuxerModel", "fault", "I", false)
  | 18 => ("StreamRemuxerModel", "faultAt", "I", false)
  | 19 => ("StreamRemuxerModel", "told", "I", false)
  | 20 => ("StreamRemuxerModel", "toldAt", "I", false)
  | 21 => ("StreamRemuxerModel", "pageCount", "I", false)
  | 22 => ("StreamRemuxerModel", "clusterCount", "I", false)
  | 23 => ("StreamRemuxerModel", "blockCount", "I", false)
  | 24 => ("StreamRemuxerModel", "pages", "I", false)
  | 25 => ("StreamRemuxerModel", "clusters", "I", false)
  | 26 => ("StreamRemuxerModel", "blocks", "I", false)
  | 27 => ("StreamRemuxerModel", "serial", "I", false)
  | 28 => ("StreamRemuxerModel", "lastNumber", "I", false)
  | 29 => ("StreamRemuxerModel", "openBytes", "I", false)
  | 30 => ("StreamRemuxerModel", "isLast", "Z", false)
  | 31 => ("StreamRemuxerModel", "lastTime", "J", false)
  | 32 => ("StreamRemuxerModel", "number", "I", false)
  | 33 => ("StreamRemuxerModel", "clusterTime", "J", false)
  | 34 => ("StreamRemuxerModel", "hasTime", "Z", false)
  | 35 => ("StreamRemuxerModel", "inCluster", "Z", false)
  | 36 => ("StreamRemuxerModel", "id", "I", false)
  | 37 => ("StreamRemuxerModel", "from", "I", false)
  | 38 => ("StreamRemuxerModel", "to", "I", false)
  | 39 => ("StreamRemuxerModel", "unknown", "Z", false)
  | 40 => ("StreamRemuxerModel", "over", "I", false)
  | 41 => ("StreamRemuxerModel", "sizes", "[I", true)
  | 42 => ("StreamRemuxerModel", "headRow", "[B", true)
  | 43 => ("StreamRemuxerModel", "infoRow", "[B", true)
  | 44 => ("StreamRemuxerModel", "tracksRow", "[B", true)
  | _ => ("StreamRemuxerModel", "codecRow", "[B", true)
def tyX10 : Nat → FieldType := fun k => match k with
  | 0 => .array .byte
  | 1 => .array .byte
  | 2 => .array .byte
  | 3 => .int
  | 4 => .int
  | 5 => .int
  | 6 => .boolean
  | 7 => .array .int
  | 8 => .array .int
  | 9 => .array .long
  | 10 => .array .long
  | 11 => .array .byte
  | 12 => .array .byte
  | 13 => .int
  | 14 => .int
  | 15 => .int
  | 16 => .int
  | 17 => .int
  | 18 => .int
  | 19 => .int
  | 20 => .int
  | 21 => .int
  | 22 => .int
  | 23 => .int
  | 24 => .int
  | 25 => .int
  | 26 => .int
  | 27 => .int
  | 28 => .int
  | 29 => .int
  | 30 => .boolean
  | 31 => .long
  | 32 => .int
  | 33 => .long
  | 34 => .boolean
  | 35 => .boolean
  | 36 => .int
  | 37 => .int
  | 38 => .int
  | 39 => .boolean
  | 40 => .int
  | 41 => .array .int
  | 42 => .array .byte
  | 43 => .array .byte
  | 44 => .array .byte
  | _ => .array .byte
abbrev wsX100 : List Cond := u_ws RX10 TX10 46
theorem nmX10 : ∀ a, a < 46 → ∀ b, b < 46 → a ≠ b → (TX10 a).2.1 ≠ (TX10 b).2.1 := by decide +kernel
theorem tyX10_ok : ∀ k, k < 46 → parseFieldDescriptor (TX10 k).2.2.1 = some (tyX10 k) := by decide +kernel
abbrev cX10_init : ByteArray := prog_12_method_1_code
def yX10_init : MethodName := ⟨RX10, "<init>", "()V"⟩
abbrev cX10_feed : ByteArray := prog_12_method_2_code
def yX10_feed : MethodName := ⟨RX10, "feed", "(IIIII)I"⟩
abbrev cX10_four : ByteArray := prog_12_method_3_code
def yX10_four : MethodName := ⟨RX10, "four", "(I)V"⟩
abbrev cX10_at : ByteArray := prog_12_method_4_code
def yX10_at : MethodName := ⟨RX10, "at", "(I)I"⟩
abbrev cX10_packet : ByteArray := prog_12_method_5_code
def yX10_packet : MethodName := ⟨RX10, "packet", "(IJ)I"⟩
abbrev cX10_clear : ByteArray := prog_12_method_6_code
def yX10_clear : MethodName := ⟨RX10, "clear", "()I"⟩
abbrev cX10_timeOf : ByteArray := prog_12_method_7_code
def yX10_timeOf : MethodName := ⟨RX10, "timeOf", "(I)J"⟩
abbrev cX10_takeList : ByteArray := prog_12_method_8_code
def yX10_takeList : MethodName := ⟨RX10, "takeList", "()V"⟩
abbrev cX10_put : ByteArray := prog_12_method_9_code
def yX10_put : MethodName := ⟨RX10, "put", "(I)V"⟩
abbrev cX10_putLow : ByteArray := prog_12_method_10_code
def yX10_putLow : MethodName := ⟨RX10, "putLow", "(JI)V"⟩
abbrev cX10_putHigh : ByteArray := prog_12_method_11_code
def yX10_putHigh : MethodName := ⟨RX10, "putHigh", "(JI)V"⟩
abbrev cX10_putRow : ByteArray := prog_12_method_12_code
def yX10_putRow : MethodName := ⟨RX10, "putRow", "([B)V"⟩
abbrev cX10_drawn : ByteArray := prog_12_method_13_code
def yX10_drawn : MethodName := ⟨RX10, "drawn", "()I"⟩
abbrev cX10_sumOf : ByteArray := prog_12_method_14_code
def yX10_sumOf : MethodName := ⟨RX10, "sumOf", "([BII)I"⟩
abbrev cX10_putSum : ByteArray := prog_12_method_15_code
def yX10_putSum : MethodName := ⟨RX10, "putSum", "([BII)V"⟩
abbrev cX10_pages : ByteArray := prog_12_method_16_code
def yX10_pages : MethodName := ⟨RX10, "pages", "(III)I"⟩
abbrev cX10_segmentsFrom : ByteArray := prog_12_method_17_code
def yX10_segmentsFrom : MethodName := ⟨RX10, "segmentsFrom", "(III)V"⟩
abbrev cX10_fails : ByteArray := prog_12_method_18_code
def yX10_fails : MethodName := ⟨RX10, "fails", "(II)Z"⟩
abbrev cX10_low : ByteArray := prog_12_method_19_code
def yX10_low : MethodName := ⟨RX10, "low", "(II)J"⟩
abbrev cX10_begin : ByteArray := prog_12_method_20_code
def yX10_begin : MethodName := ⟨RX10, "begin", "()V"⟩
abbrev cX10_ends : ByteArray := prog_12_method_21_code
def yX10_ends : MethodName := ⟨RX10, "ends", "(I)I"⟩
abbrev cX10_readPages : ByteArray := prog_12_method_22_code
def yX10_readPages : MethodName := ⟨RX10, "readPages", "(I)I"⟩
abbrev cX10_lengthOf : ByteArray := prog_12_method_23_code
def yX10_lengthOf : MethodName := ⟨RX10, "lengthOf", "(I)I"⟩
abbrev cX10_isMark : ByteArray := prog_12_method_24_code
def yX10_isMark : MethodName := ⟨RX10, "isMark", "(I)Z"⟩
abbrev cX10_isWhole : ByteArray := prog_12_method_25_code
def yX10_isWhole : MethodName := ⟨RX10, "isWhole", "(II)Z"⟩
abbrev cX10_page : ByteArray := prog_12_method_26_code
def yX10_page : MethodName := ⟨RX10, "page", "(II)Z"⟩
abbrev cX10_packets : ByteArray := prog_12_method_27_code
def yX10_packets : MethodName := ⟨RX10, "packets", "(IIIII)Z"⟩
abbrev cX10_lengthBy : ByteArray := prog_12_method_28_code
def yX10_lengthBy : MethodName := ⟨RX10, "lengthBy", "(I)I"⟩
abbrev cX10_sizeAt : ByteArray := prog_12_method_29_code
def yX10_sizeAt : MethodName := ⟨RX10, "sizeAt", "(II)J"⟩
abbrev cX10_name : ByteArray := prog_12_method_30_code
def yX10_name : MethodName := ⟨RX10, "name", "(IIII)Z"⟩
abbrev cX10_head : ByteArray := prog_12_method_31_code
def yX10_head : MethodName := ⟨RX10, "head", "(III)Z"⟩
abbrev cX10_mayStand : ByteArray := prog_12_method_32_code
def yX10_mayStand : MethodName := ⟨RX10, "mayStand", "(II)Z"⟩
abbrev cX10_bitOfHead : ByteArray := prog_12_method_33_code
def yX10_bitOfHead : MethodName := ⟨RX10, "bitOfHead", "()I"⟩
abbrev cX10_bit : ByteArray := prog_12_method_34_code
def yX10_bit : MethodName := ⟨RX10, "bit", "(I)I"⟩
abbrev cX10_elements : ByteArray := prog_12_method_35_code
def yX10_elements : MethodName := ⟨RX10, "elements", "(IIIIZ)Z"⟩
abbrev cX10_isCluster : ByteArray := prog_12_method_36_code
def yX10_isCluster : MethodName := ⟨RX10, "isCluster", "(II)Z"⟩
abbrev cX10_sortOf : ByteArray := prog_12_method_37_code
def yX10_sortOf : MethodName := ⟨RX10, "sortOf", "()I"⟩
abbrev cX10_has : ByteArray := prog_12_method_38_code
def yX10_has : MethodName := ⟨RX10, "has", "(III)Z"⟩
abbrev cX10_uint : ByteArray := prog_12_method_39_code
def yX10_uint : MethodName := ⟨RX10, "uint", "()J"⟩
abbrev cX10_isWithin : ByteArray := prog_12_method_40_code
def yX10_isWithin : MethodName := ⟨RX10, "isWithin", "(IJJ)Z"⟩
abbrev cX10_plain : ByteArray := prog_12_method_41_code
def yX10_plain : MethodName := ⟨RX10, "plain", "(I)Z"⟩
abbrev cX10_isMatroska : ByteArray := prog_12_method_42_code
def yX10_isMatroska : MethodName := ⟨RX10, "isMatroska", "()Z"⟩
abbrev cX10_block : ByteArray := prog_12_method_43_code
def yX10_block : MethodName := ⟨RX10, "block", "(I)Z"⟩
abbrev cX10_laced : ByteArray := prog_12_method_44_code
def yX10_laced : MethodName := ⟨RX10, "laced", "(III)I"⟩
abbrev cX10_readElements : ByteArray := prog_12_method_45_code
def yX10_readElements : MethodName := ⟨RX10, "readElements", "(I)I"⟩
abbrev cX10_wrong : ByteArray := prog_12_method_46_code
def yX10_wrong : MethodName := ⟨RX10, "wrong", "(I)I"⟩
abbrev cX10_sizeLength : ByteArray := prog_12_method_47_code
def yX10_sizeLength : MethodName := ⟨RX10, "sizeLength", "(J)I"⟩
abbrev cX10_putSize : ByteArray := prog_12_method_48_code
def yX10_putSize : MethodName := ⟨RX10, "putSize", "(J)V"⟩
abbrev cX10_later : ByteArray := prog_12_method_49_code
def yX10_later : MethodName := ⟨RX10, "later", "(Z)I"⟩
abbrev cX10_tell : ByteArray := prog_12_method_50_code
def yX10_tell : MethodName := ⟨RX10, "tell", "(IZ)V"⟩
abbrev cX10_elements_ : ByteArray := prog_12_method_51_code
def yX10_elements_ : MethodName := ⟨RX10, "elements", "(IIIZ)I"⟩
abbrev cX10_signedLength : ByteArray := prog_12_method_52_code
def yX10_signedLength : MethodName := ⟨RX10, "signedLength", "(J)I"⟩
abbrev cX10_putBlock : ByteArray := prog_12_method_53_code
def yX10_putBlock : MethodName := ⟨RX10, "putBlock", "(IIIII)V"⟩
abbrev cX10_turn : ByteArray := prog_12_method_54_code
def yX10_turn : MethodName := ⟨RX10, "turn", "()I"⟩
abbrev cX10_count : ByteArray := prog_12_method_55_code
def yX10_count : MethodName := ⟨RX10, "count", "(I)I"⟩
abbrev cX10_size : ByteArray := prog_12_method_56_code
def yX10_size : MethodName := ⟨RX10, "size", "(I)I"⟩
abbrev cX10_time : ByteArray := prog_12_method_57_code
def yX10_time : MethodName := ⟨RX10, "time", "(I)J"⟩
abbrev cX10_octet : ByteArray := prog_12_method_58_code
def yX10_octet : MethodName := ⟨RX10, "octet", "(II)I"⟩
abbrev cX10_out : ByteArray := prog_12_method_59_code
def yX10_out : MethodName := ⟨RX10, "out", "(I)I"⟩
abbrev cX10_patch : ByteArray := prog_12_method_60_code
def yX10_patch : MethodName := ⟨RX10, "patch", "(II)Z"⟩
abbrev cX10_sum : ByteArray := prog_12_method_61_code
def yX10_sum : MethodName := ⟨RX10, "sum", "(I)Z"⟩
def RJ9 : String := "java/lang/Math"
def TJ9 : u_T := fun k => match k with
  | _ => ("", "", "", false)
def tyJ9 : Nat → FieldType := fun k => match k with
  | _ => .int
abbrev wsJ90 : List Cond := u_ws RJ9 TJ9 0
theorem nmJ9 : ∀ a, a < 0 → ∀ b, b < 0 → a ≠ b → (TJ9 a).2.1 ≠ (TJ9 b).2.1 := by decide +kernel
theorem tyJ9_ok : ∀ k, k < 0 → parseFieldDescriptor (TJ9 k).2.2.1 = some (tyJ9 k) := by decide +kernel
abbrev cJ9_abs_067f4 : ByteArray := prog_13_method_61_code
def yJ9_abs_067f4 : MethodName := ⟨RJ9, "abs", "(J)J"⟩
abbrev cJ9_max_7cf53 : ByteArray := prog_13_method_65_code
def yJ9_max_7cf53 : MethodName := ⟨RJ9, "max", "(II)I"⟩
abbrev cJ9_max_f86c9 : ByteArray := prog_13_method_66_code
def yJ9_max_f86c9 : MethodName := ⟨RJ9, "max", "(JJ)J"⟩
abbrev cJ9_min_7cf53 : ByteArray := prog_13_method_69_code
def yJ9_min_7cf53 : MethodName := ⟨RJ9, "min", "(II)I"⟩
def RJ0 : String := "java/lang/String"
def TJ0 : u_T := fun k => match k with
  | _ => ("", "", "", false)
def tyJ0 : Nat → FieldType := fun k => match k with
  | _ => .int
abbrev wsJ00 : List Cond := u_ws RJ0 TJ0 0
theorem nmJ0 : ∀ a, a < 0 → ∀ b, b < 0 → a ≠ b → (TJ0 a).2.1 ≠ (TJ0 b).2.1 := by decide +kernel
theorem tyJ0_ok : ∀ k, k < 0 → parseFieldDescriptor (TJ0 k).2.2.1 = some (tyJ0 k) := by decide +kernel
abbrev cJ0_length_8abf5 : ByteArray := prog_14_method_54_code
def yJ0_length_8abf5 : MethodName := ⟨RJ0, "length", "()I"⟩
abbrev cJ0_charAt_5068e : ByteArray := prog_14_method_56_code
def yJ0_charAt_5068e : MethodName := ⟨RJ0, "charAt", "(I)C"⟩
abbrev cJ0_coder_7d493 : ByteArray := prog_14_method_152_code
def yJ0_coder_7d493 : MethodName := ⟨RJ0, "coder", "()B"⟩
abbrev cJ0_isLatin1_aae02 : ByteArray := prog_14_method_154_code
def yJ0_isLatin1_aae02 : MethodName := ⟨RJ0, "isLatin1", "()Z"⟩
abbrev cJ0_checkIndex_df160 : ByteArray := prog_14_method_155_code
def yJ0_checkIndex_df160 : MethodName := ⟨RJ0, "checkIndex", "(II)V"⟩
def RJ1 : String := "java/lang/StringLatin1"
def TJ1 : u_T := fun k => match k with
  | _ => ("", "", "", false)
def tyJ1 : Nat → FieldType := fun k => match k with
  | _ => .int
abbrev wsJ10 : List Cond := u_ws RJ1 TJ1 0
theorem nmJ1 : ∀ a, a < 0 → ∀ b, b < 0 → a ≠ b → (TJ1 a).2.1 ≠ (TJ1 b).2.1 := by decide +kernel
theorem tyJ1_ok : ∀ k, k < 0 → parseFieldDescriptor (TJ1 k).2.2.1 = some (tyJ1 k) := by decide +kernel
abbrev cJ1_charAt_3b067 : ByteArray := prog_15_method_2_code
def yJ1_charAt_3b067 : MethodName := ⟨RJ1, "charAt", "([BI)C"⟩
def RJ2 : String := "java/lang/StringUTF16"
def TJ2 : u_T := fun k => match k with
  | _ => ("", "", "", false)
def tyJ2 : Nat → FieldType := fun k => match k with
  | _ => .int
abbrev wsJ20 : List Cond := u_ws RJ2 TJ2 0
theorem nmJ2 : ∀ a, a < 0 → ∀ b, b < 0 → a ≠ b → (TJ2 a).2.1 ≠ (TJ2 b).2.1 := by decide +kernel
theorem tyJ2_ok : ∀ k, k < 0 → parseFieldDescriptor (TJ2 k).2.2.1 = some (tyJ2 k) := by decide +kernel
abbrev cJ2_getChar_3b067 : ByteArray := prog_16_method_5_code
def yJ2_getChar_3b067 : MethodName := ⟨RJ2, "getChar", "([BI)C"⟩
abbrev cJ2_length_9d52b : ByteArray := prog_16_method_6_code
def yJ2_length_9d52b : MethodName := ⟨RJ2, "length", "([B)I"⟩
abbrev cJ2_charAt_3b067 : ByteArray := prog_16_method_83_code
def yJ2_charAt_3b067 : MethodName := ⟨RJ2, "charAt", "([BI)C"⟩
abbrev cJ2_checkIndex_2214a : ByteArray := prog_16_method_91_code
def yJ2_checkIndex_2214a : MethodName := ⟨RJ2, "checkIndex", "(I[B)V"⟩
def RJ10 : String := "java/lang/System"
def TJ10 : u_T := fun k => match k with
  | _ => ("", "", "", false)
def tyJ10 : Nat → FieldType := fun k => match k with
  | _ => .int
abbrev wsJ100 : List Cond := u_ws RJ10 TJ10 0
theorem nmJ10 : ∀ a, a < 0 → ∀ b, b < 0 → a ≠ b → (TJ10 a).2.1 ≠ (TJ10 b).2.1 := by decide +kernel
theorem tyJ10_ok : ∀ k, k < 0 → parseFieldDescriptor (TJ10 k).2.2.1 = some (tyJ10 k) := by decide +kernel
def RJ3 : String := "jdk/internal/util/Preconditions"
def TJ3 : u_T := fun k => match k with
  | _ => ("", "", "", false)
def tyJ3 : Nat → FieldType := fun k => match k with
  | _ => .int
abbrev wsJ30 : List Cond := u_ws RJ3 TJ3 0
theorem nmJ3 : ∀ a, a < 0 → ∀ b, b < 0 → a ≠ b → (TJ3 a).2.1 ≠ (TJ3 b).2.1 := by decide +kernel
theorem tyJ3_ok : ∀ k, k < 0 → parseFieldDescriptor (TJ3 k).2.2.1 = some (tyJ3 k) := by decide +kernel
abbrev cJ3_checkIndex_8e157 : ByteArray := prog_18_method_11_code
def yJ3_checkIndex_8e157 : MethodName := ⟨RJ3, "checkIndex", "(IILjava/util/function/BiFunction;)I"⟩
def wsX0_highestSize : List Cond := .code yX0_highestSize cX0_highestSize 1 (some .long) :: ([.constantLong RX0 7 (2)])
def wsX0_differenceShift : List Cond := .code yX0_differenceShift cX0_differenceShift 1 (some .long) :: ([])
def wsX3_init : List Cond := .code yX3_init cX3_init 1 none :: ([.methodLink RX3 1 objectInit, .instanceMethod objectInit, .code objectInit ⟨#[0xb1]⟩ 1 none])
def wsX1_init : List Cond := .code yX1_init cX1_init 2 none :: ([.methodLink RX1 5 objectInit, .instanceMethod objectInit, .code objectInit ⟨#[0xb1]⟩ 1 none, .arrayClass .int, .fieldLink RX1 13 "StreamRemuxer$ElementReader" "lacedSizes" "[I", .classLink RX1 17 RX3, .fieldLink RX1 19 "StreamRemuxer$ElementReader" "levels" "[LStreamRemuxer$Level;", .instantiable RX3 5, .initialized RX3, .instanceMethod yX3_init, .code yX3_init cX3_init 1 none, .methodLink RX3 1 objectInit] ++ wsX10 ++ wsX30)
def wsX1_fail : List Cond := .code yX1_fail cX1_fail 3 (some .int) :: ([.fieldLink RX1 32 "StreamRemuxer$ElementReader" "fault" "I", .fieldLink RX1 36 "StreamRemuxer$ElementReader" "place" "I"] ++ wsX10)
def wsX1_openLevel : List Cond := .code yX1_openLevel cX1_openLevel 6 (some .int) :: ([.fieldLink RX1 54 "StreamRemuxer$ElementReader" "depth" "I", .fieldLink RX1 19 "StreamRemuxer$ElementReader" "levels" "[LStreamRemuxer$Level;", .fieldLink RX1 75 "StreamRemuxer$Level" "id" "I", .fieldLink RX1 78 "StreamRemuxer$Level" "missingPlace" "I", .fieldLink RX1 61 "StreamRemuxer$Level" "end" "I", .fieldLink RX1 81 "StreamRemuxer$Level" "seen" "I", .fieldLink RX1 84 "StreamRemuxer$Level" "tillCluster" "Z", .constant RX1 88 (524531317), .fieldLink RX1 89 "StreamRemuxer$ElementReader" "bodySize" "J", .constantLong RX1 45 (-1), .fieldLink RX1 39 "StreamRemuxer$ElementReader" "clusters" "I", .fieldLink RX1 51 "StreamRemuxer$ElementReader" "clusterTime" "J", .methodLink RX1 71 yX1_fail, .instanceMethod yX1_fail, .selects RX1 yX1_fail yX1_fail, .initialized RX1, .code yX1_fail cX1_fail 3 (some .int), .fieldLink RX1 32 "StreamRemuxer$ElementReader" "fault" "I", .fieldLink RX1 36 "StreamRemuxer$ElementReader" "place" "I"] ++ wsX10 ++ wsX30)
def wsX8_at : List Cond := .code yX8_at cX8_at 2 (some .int) :: ([.fieldLink RX8 25 "StreamRemuxer$Row" "length" "I", .fieldLink RX8 21 "StreamRemuxer$Row" "words" "[I"] ++ wsX80)
def wsX1_markedWidth : List Cond := .code yX1_markedWidth cX1_markedWidth 2 (some .int) :: ([])
def wsX8_highFirst : List Cond := .code yX8_highFirst cX8_highFirst 6 (some .long) :: ([.methodLink RX8 40 yX8_at, .instanceMethod yX8_at, .selects RX8 yX8_at yX8_at, .initialized RX8, .code yX8_at cX8_at 2 (some .int), .fieldLink RX8 25 "StreamRemuxer$Row" "length" "I", .fieldLink RX8 21 "StreamRemuxer$Row" "words" "[I"] ++ wsX80)
def wsX1_readId : List Cond := .code yX1_readId cX1_readId 4 (some .int) :: ([.fieldLink RX1 24 "StreamRemuxer$ElementReader" "file" "LStreamRemuxer$Row;", .methodLink RX1 105 yX8_at, .instanceMethod yX8_at, .selects RX8 yX8_at yX8_at, .initialized RX8, .code yX8_at cX8_at 2 (some .int), .fieldLink RX8 25 "StreamRemuxer$Row" "length" "I", .fieldLink RX8 21 "StreamRemuxer$Row" "words" "[I", .methodLink RX1 111 yX1_markedWidth, .static yX1_markedWidth, .initialized RX1, .code yX1_markedWidth cX1_markedWidth 2 (some .int), .methodLink RX1 71 yX1_fail, .instanceMethod yX1_fail, .selects RX1 yX1_fail yX1_fail, .code yX1_fail cX1_fail 3 (some .int), .fieldLink RX1 32 "StreamRemuxer$ElementReader" "fault" "I", .fieldLink RX1 36 "StreamRemuxer$ElementReader" "place" "I", .methodLink RX1 143 yX8_highFirst, .instanceMethod yX8_highFirst, .selects RX8 yX8_highFirst yX8_highFirst, .code yX8_highFirst cX8_highFirst 6 (some .long), .methodLink RX8 40 yX8_at] ++ wsX10 ++ wsX80)
def wsX1_column : List Cond := .code yX1_column cX1_column 3 (some .long) :: ([.fieldLink RX1 130 "StreamRemuxer$ElementReader" "TOLD" "[J", .constantLong RX1 45 (-1)])
def wsX1_lacksSome : List Cond := .code yX1_lacksSome cX1_lacksSome 4 (some .boolean) :: ([.constantLong RX1 134 (2), .methodLink RX1 117 yX1_column, .static yX1_column, .initialized RX1, .code yX1_column cX1_column 3 (some .long), .fieldLink RX1 130 "StreamRemuxer$ElementReader" "TOLD" "[J", .constantLong RX1 45 (-1)])
def wsX1_closeLevel : List Cond := .code yX1_closeLevel cX1_closeLevel 3 (some .int) :: ([.fieldLink RX1 75 "StreamRemuxer$Level" "id" "I", .fieldLink RX1 81 "StreamRemuxer$Level" "seen" "I", .fieldLink RX1 78 "StreamRemuxer$Level" "missingPlace" "I", .fieldLink RX1 54 "StreamRemuxer$ElementReader" "depth" "I", .methodLink RX1 92 yX1_lacksSome, .static yX1_lacksSome, .initialized RX1, .code yX1_lacksSome cX1_lacksSome 4 (some .boolean), .constantLong RX1 134 (2), .methodLink RX1 117 yX1_column, .static yX1_column, .code yX1_column cX1_column 3 (some .long), .fieldLink RX1 130 "StreamRemuxer$ElementReader" "TOLD" "[J", .constantLong RX1 45 (-1), .methodLink RX1 71 yX1_fail, .instanceMethod yX1_fail, .selects RX1 yX1_fail yX1_fail, .code yX1_fail cX1_fail 3 (some .int), .fieldLink RX1 32 "StreamRemuxer$ElementReader" "fault" "I", .fieldLink RX1 36 "StreamRemuxer$ElementReader" "place" "I"] ++ wsX30 ++ wsX10)
def wsX1_rowOf : List Cond := .code yX1_rowOf cX1_rowOf 5 (some .int) :: ([.constantLong RX1 45 (-1), .methodLink RX1 117 yX1_column, .static yX1_column, .initialized RX1, .code yX1_column cX1_column 3 (some .long), .fieldLink RX1 130 "StreamRemuxer$ElementReader" "TOLD" "[J"])
def wsX1_isSeen : List Cond := .code yX1_isSeen cX1_isSeen 4 (some .boolean) :: ([.methodLink RX1 99 yX1_rowOf, .static yX1_rowOf, .initialized RX1, .code yX1_rowOf cX1_rowOf 5 (some .int), .constantLong RX1 45 (-1), .methodLink RX1 117 yX1_column, .static yX1_column, .code yX1_column cX1_column 3 (some .long), .fieldLink RX1 130 "StreamRemuxer$ElementReader" "TOLD" "[J"])
def wsX1_mayStand : List Cond := .code yX1_mayStand cX1_mayStand 2 (some .boolean) :: ([.constant RX1 136 (408125543), .constant RX1 141 (440786851), .constant RX1 88 (524531317), .constant RX1 142 (374648427), .methodLink RX1 137 yX1_isSeen, .static yX1_isSeen, .initialized RX1, .code yX1_isSeen cX1_isSeen 4 (some .boolean), .methodLink RX1 99 yX1_rowOf, .static yX1_rowOf, .code yX1_rowOf cX1_rowOf 5 (some .int), .constantLong RX1 45 (-1), .methodLink RX1 117 yX1_column, .static yX1_column, .code yX1_column cX1_column 3 (some .long), .fieldLink RX1 130 "StreamRemuxer$ElementReader" "TOLD" "[J"])
def wsX1_sizeWidth : List Cond := .code yX1_sizeWidth cX1_sizeWidth 4 (some .int) :: ([.fieldLink RX1 24 "StreamRemuxer$ElementReader" "file" "LStreamRemuxer$Row;", .methodLink RX1 105 yX8_at, .instanceMethod yX8_at, .selects RX8 yX8_at yX8_at, .initialized RX8, .code yX8_at cX8_at 2 (some .int), .fieldLink RX8 25 "StreamRemuxer$Row" "length" "I", .fieldLink RX8 21 "StreamRemuxer$Row" "words" "[I", .methodLink RX1 111 yX1_markedWidth, .static yX1_markedWidth, .initialized RX1, .code yX1_markedWidth cX1_markedWidth 2 (some .int)] ++ wsX10 ++ wsX80)
def wsX1_sizeNumber : List Cond := .code yX1_sizeNumber cX1_sizeNumber 6 (some .long) :: ([.fieldLink RX1 24 "StreamRemuxer$ElementReader" "file" "LStreamRemuxer$Row;", .constantLong RX1 45 (-1), .methodLink RX1 105 yX8_at, .instanceMethod yX8_at, .selects RX8 yX8_at yX8_at, .initialized RX8, .code yX8_at cX8_at 2 (some .int), .fieldLink RX8 25 "StreamRemuxer$Row" "length" "I", .fieldLink RX8 21 "StreamRemuxer$Row" "words" "[I", .methodLink RX1 146 yX0_highestSize, .static yX0_highestSize, .initialized RX0, .code yX0_highestSize cX0_highestSize 1 (some .long), .constantLong RX0 7 (2)] ++ wsX10 ++ wsX80)
def wsX1_readSize_r1 : List Cond := [Cond.fieldLink RX1 89 "StreamRemuxer$ElementReader" "bodySize" "J", Cond.constant RX1 136 (408125543), Cond.constant RX1 88 (524531317), Cond.constantLong RX1 156 (2147483647), Cond.constantLong RX1 45 (-1), Cond.methodLink RX1 150 yX1_sizeWidth, Cond.instanceMethod yX1_sizeWidth, Cond.selects RX1 yX1_sizeWidth yX1_sizeWidth, Cond.initialized RX1, Cond.code yX1_sizeWidth cX1_sizeWidth 4 (some .int), Cond.fieldLink RX1 24 "StreamRemuxer$ElementReader" "file" "LStreamRemuxer$Row;", Cond.methodLink RX1 105 yX8_at, Cond.instanceMethod yX8_at, Cond.selects RX8 yX8_at yX8_at, Cond.initialized RX8, Cond.code yX8_at cX8_at 2 (some .int), Cond.fieldLink RX8 25 "StreamRemuxer$Row" "length" "I", Cond.fieldLink RX8 21 "StreamRemuxer$Row" "words" "[I", Cond.methodLink RX1 111 yX1_markedWidth, Cond.static yX1_markedWidth, Cond.code yX1_markedWidth cX1_markedWidth 2 (some .int), Cond.methodLink RX1 71 yX1_fail, Cond.instanceMethod yX1_fail, Cond.selects RX1 yX1_fail yX1_fail]
def wsX1_readSize_r2 : List Cond := [Cond.code yX1_fail cX1_fail 3 (some .int), Cond.fieldLink RX1 32 "StreamRemuxer$ElementReader" "fault" "I", Cond.fieldLink RX1 36 "StreamRemuxer$ElementReader" "place" "I", Cond.methodLink RX1 153 yX1_sizeNumber, Cond.instanceMethod yX1_sizeNumber, Cond.selects RX1 yX1_sizeNumber yX1_sizeNumber, Cond.code yX1_sizeNumber cX1_sizeNumber 6 (some .long), Cond.methodLink RX1 146 yX0_highestSize, Cond.static yX0_highestSize, Cond.initialized RX0, Cond.code yX0_highestSize cX0_highestSize 1 (some .long), Cond.constantLong RX0 7 (2)]
def wsX1_readSize : List Cond := .code yX1_readSize cX1_readSize 7 (some .int) :: ((wsX1_readSize_r1 ++ wsX1_readSize_r2) ++ wsX10 ++ wsX80)
def wsX1_readUint_r1 : List Cond := [Cond.fieldLink RX1 24 "StreamRemuxer$ElementReader" "file" "LStreamRemuxer$Row;", Cond.constantLong RX1 158 (215), Cond.fieldLink RX1 47 "StreamRemuxer$ElementReader" "trackNumber" "J", Cond.constantLong RX1 160 (231), Cond.fieldLink RX1 51 "StreamRemuxer$ElementReader" "clusterTime" "J", Cond.methodLink RX1 71 yX1_fail, Cond.instanceMethod yX1_fail, Cond.selects RX1 yX1_fail yX1_fail, Cond.initialized RX1, Cond.code yX1_fail cX1_fail 3 (some .int), Cond.fieldLink RX1 32 "StreamRemuxer$ElementReader" "fault" "I", Cond.fieldLink RX1 36 "StreamRemuxer$ElementReader" "place" "I", Cond.methodLink RX1 143 yX8_highFirst, Cond.instanceMethod yX8_highFirst, Cond.selects RX8 yX8_highFirst yX8_highFirst, Cond.initialized RX8, Cond.code yX8_highFirst cX8_highFirst 6 (some .long), Cond.methodLink RX8 40 yX8_at, Cond.instanceMethod yX8_at, Cond.selects RX8 yX8_at yX8_at, Cond.code yX8_at cX8_at 2 (some .int), Cond.fieldLink RX8 25 "StreamRemuxer$Row" "length" "I", Cond.fieldLink RX8 21 "StreamRemuxer$Row" "words" "[I", Cond.methodLink RX1 117 yX1_column]
def wsX1_readUint_r2 : List Cond := [Cond.static yX1_column, Cond.code yX1_column cX1_column 3 (some .long), Cond.fieldLink RX1 130 "StreamRemuxer$ElementReader" "TOLD" "[J", Cond.constantLong RX1 45 (-1)]
def wsX1_readUint : List Cond := .code yX1_readUint cX1_readUint 7 (some .int) :: ((wsX1_readUint_r1 ++ wsX1_readUint_r2) ++ wsX10 ++ wsX80)
def wsJ0_coder_7d493 : List Cond := .code yJ0_coder_7d493 cJ0_coder_7d493 1 (some .byte) :: ([.fieldLink RJ0 38 "java/lang/String" "COMPACT_STRINGS" "Z", .fieldLink RJ0 15 "java/lang/String" "coder" "B"])
def wsJ0_length_8abf5 : List Cond := .code yJ0_length_8abf5 cJ0_length_8abf5 1 (some .int) :: ([.fieldLink RJ0 9 "java/lang/String" "value" "[B", .methodLink RJ0 335 yJ0_coder_7d493, .instanceMethod yJ0_coder_7d493, .selects RJ0 yJ0_coder_7d493 yJ0_coder_7d493, .initialized RJ0, .code yJ0_coder_7d493 cJ0_coder_7d493 1 (some .byte), .fieldLink RJ0 38 "java/lang/String" "COMPACT_STRINGS" "Z", .fieldLink RJ0 15 "java/lang/String" "coder" "B"])
def wsJ0_isLatin1_aae02 : List Cond := .code yJ0_isLatin1_aae02 cJ0_isLatin1_aae02 1 (some .boolean) :: ([.fieldLink RJ0 38 "java/lang/String" "COMPACT_STRINGS" "Z", .fieldLink RJ0 15 "java/lang/String" "coder" "B"])
def wsJ3_checkIndex_8e157 : List Cond := .code yJ3_checkIndex_8e157 cJ3_checkIndex_8e157 3 (some .int) :: ([])
def wsJ0_checkIndex_df160 : List Cond := .code yJ0_checkIndex_df160 cJ0_checkIndex_df160 2 none :: ([.fieldLink RJ0 1053 "jdk/internal/util/Preconditions" "SIOOBE_FORMATTER" "Ljava/util/function/BiFunction;", .methodLink RJ0 1059 yJ3_checkIndex_8e157, .static yJ3_checkIndex_8e157, .initialized RJ3, .code yJ3_checkIndex_8e157 cJ3_checkIndex_8e157 3 (some .int)])
def wsJ1_charAt_3b067 : List Cond := .code yJ1_charAt_3b067 cJ1_charAt_3b067 2 (some .char) :: ([.methodLink RJ1 9 yJ0_checkIndex_df160, .static yJ0_checkIndex_df160, .initialized RJ0, .code yJ0_checkIndex_df160 cJ0_checkIndex_df160 2 none, .fieldLink RJ0 1053 "jdk/internal/util/Preconditions" "SIOOBE_FORMATTER" "Ljava/util/function/BiFunction;", .methodLink RJ0 1059 yJ3_checkIndex_8e157, .static yJ3_checkIndex_8e157, .initialized RJ3, .code yJ3_checkIndex_8e157 cJ3_checkIndex_8e157 3 (some .int)])
def wsJ2_length_9d52b : List Cond := .code yJ2_length_9d52b cJ2_length_9d52b 1 (some .int) :: ([])
def wsJ2_checkIndex_2214a : List Cond := .code yJ2_checkIndex_2214a cJ2_checkIndex_2214a 2 none :: ([.methodLink RJ2 48 yJ2_length_9d52b, .static yJ2_length_9d52b, .initialized RJ2, .code yJ2_length_9d52b cJ2_length_9d52b 1 (some .int), .methodLink RJ2 414 yJ0_checkIndex_df160, .static yJ0_checkIndex_df160, .initialized RJ0, .code yJ0_checkIndex_df160 cJ0_checkIndex_df160 2 none, .fieldLink RJ0 1053 "jdk/internal/util/Preconditions" "SIOOBE_FORMATTER" "Ljava/util/function/BiFunction;", .methodLink RJ0 1059 yJ3_checkIndex_8e157, .static yJ3_checkIndex_8e157, .initialized RJ3, .code yJ3_checkIndex_8e157 cJ3_checkIndex_8e157 3 (some .int)])
def wsJ2_getChar_3b067 : List Cond := .code yJ2_getChar_3b067 cJ2_getChar_3b067 2 (some .char) :: ([.fieldLink RJ2 44 "java/lang/StringUTF16" "$assertionsDisabled" "Z", .fieldLink RJ2 59 "java/lang/StringUTF16" "HI_BYTE_SHIFT" "I", .fieldLink RJ2 63 "java/lang/StringUTF16" "LO_BYTE_SHIFT" "I", .methodLink RJ2 48 yJ2_length_9d52b, .static yJ2_length_9d52b, .initialized RJ2, .code yJ2_length_9d52b cJ2_length_9d52b 1 (some .int)])
def wsJ2_charAt_3b067 : List Cond := .code yJ2_charAt_3b067 cJ2_charAt_3b067 2 (some .char) :: ([.methodLink RJ2 67 yJ2_checkIndex_2214a, .static yJ2_checkIndex_2214a, .initialized RJ2, .code yJ2_checkIndex_2214a cJ2_checkIndex_2214a 2 none, .methodLink RJ2 48 yJ2_length_9d52b, .static yJ2_length_9d52b, .code yJ2_length_9d52b cJ2_length_9d52b 1 (some .int), .methodLink RJ2 414 yJ0_checkIndex_df160, .static yJ0_checkIndex_df160, .initialized RJ0, .code yJ0_checkIndex_df160 cJ0_checkIndex_df160 2 none, .fieldLink RJ0 1053 "jdk/internal/util/Preconditions" "SIOOBE_FORMATTER" "Ljava/util/function/BiFunction;", .methodLink RJ0 1059 yJ3_checkIndex_8e157, .static yJ3_checkIndex_8e157, .initialized RJ3, .code yJ3_checkIndex_8e157 cJ3_checkIndex_8e157 3 (some .int), .methodLink RJ2 71 yJ2_getChar_3b067, .static yJ2_getChar_3b067, .code yJ2_getChar_3b067 cJ2_getChar_3b067 2 (some .char), .fieldLink RJ2 44 "java/lang/StringUTF16" "$assertionsDisabled" "Z", .fieldLink RJ2 59 "java/lang/StringUTF16" "HI_BYTE_SHIFT" "I", .fieldLink RJ2 63 "java/lang/StringUTF16" "LO_BYTE_SHIFT" "I"])
def wsJ0_charAt_5068e_r1 : List Cond := [Cond.fieldLink RJ0 9 "java/lang/String" "value" "[B", Cond.methodLink RJ0 492 yJ0_isLatin1_aae02, Cond.instanceMethod yJ0_isLatin1_aae02, Cond.selects RJ0 yJ0_isLatin1_aae02 yJ0_isLatin1_aae02, Cond.initialized RJ0, Cond.code yJ0_isLatin1_aae02 cJ0_isLatin1_aae02 1 (some .boolean), Cond.fieldLink RJ0 38 "java/lang/String" "COMPACT_STRINGS" "Z", Cond.fieldLink RJ0 15 "java/lang/String" "coder" "B", Cond.methodLink RJ0 495 yJ1_charAt_3b067, Cond.static yJ1_charAt_3b067, Cond.initialized RJ1, Cond.code yJ1_charAt_3b067 cJ1_charAt_3b067 2 (some .char), Cond.methodLink RJ1 9 yJ0_checkIndex_df160, Cond.static yJ0_checkIndex_df160, Cond.code yJ0_checkIndex_df160 cJ0_checkIndex_df160 2 none, Cond.fieldLink RJ0 1053 "jdk/internal/util/Preconditions" "SIOOBE_FORMATTER" "Ljava/util/function/BiFunction;", Cond.methodLink RJ0 1059 yJ3_checkIndex_8e157, Cond.static yJ3_checkIndex_8e157, Cond.initialized RJ3, Cond.code yJ3_checkIndex_8e157 cJ3_checkIndex_8e157 3 (some .int), Cond.methodLink RJ0 498 yJ2_charAt_3b067, Cond.static yJ2_charAt_3b067, Cond.initialized RJ2, Cond.code yJ2_charAt_3b067 cJ2_charAt_3b067 2 (some .char)]
def wsJ0_charAt_5068e_r2 : List Cond := [Cond.methodLink RJ2 67 yJ2_checkIndex_2214a, Cond.static yJ2_checkIndex_2214a, Cond.code yJ2_checkIndex_2214a cJ2_checkIndex_2214a 2 none, Cond.methodLink RJ2 48 yJ2_length_9d52b, Cond.static yJ2_length_9d52b, Cond.code yJ2_length_9d52b cJ2_length_9d52b 1 (some .int), Cond.methodLink RJ2 414 yJ0_checkIndex_df160, Cond.methodLink RJ2 71 yJ2_getChar_3b067, Cond.static yJ2_getChar_3b067, Cond.code yJ2_getChar_3b067 cJ2_getChar_3b067 2 (some .char), Cond.fieldLink RJ2 44 "java/lang/StringUTF16" "$assertionsDisabled" "Z", Cond.fieldLink RJ2 59 "java/lang/StringUTF16" "HI_BYTE_SHIFT" "I", Cond.fieldLink RJ2 63 "java/lang/StringUTF16" "LO_BYTE_SHIFT" "I"]
def wsJ0_charAt_5068e : List Cond := .code yJ0_charAt_5068e cJ0_charAt_5068e 2 (some .char) :: ((wsJ0_charAt_5068e_r1 ++ wsJ0_charAt_5068e_r2))
def wsX1_isDocumentName_r1 : List Cond := [Cond.fieldLink RX1 24 "StreamRemuxer$ElementReader" "file" "LStreamRemuxer$Row;", Cond.methodLink RX1 164 yJ0_length_8abf5, Cond.instanceMethod yJ0_length_8abf5, Cond.selects RJ0 yJ0_length_8abf5 yJ0_length_8abf5, Cond.initialized RJ0, Cond.code yJ0_length_8abf5 cJ0_length_8abf5 1 (some .int), Cond.fieldLink RJ0 9 "java/lang/String" "value" "[B", Cond.methodLink RJ0 335 yJ0_coder_7d493, Cond.instanceMethod yJ0_coder_7d493, Cond.selects RJ0 yJ0_coder_7d493 yJ0_coder_7d493, Cond.code yJ0_coder_7d493 cJ0_coder_7d493 1 (some .byte), Cond.fieldLink RJ0 38 "java/lang/String" "COMPACT_STRINGS" "Z", Cond.fieldLink RJ0 15 "java/lang/String" "coder" "B", Cond.methodLink RX1 105 yX8_at, Cond.instanceMethod yX8_at, Cond.selects RX8 yX8_at yX8_at, Cond.initialized RX8, Cond.code yX8_at cX8_at 2 (some .int), Cond.fieldLink RX8 25 "StreamRemuxer$Row" "length" "I", Cond.fieldLink RX8 21 "StreamRemuxer$Row" "words" "[I", Cond.methodLink RX1 170 yJ0_charAt_5068e, Cond.instanceMethod yJ0_charAt_5068e, Cond.selects RJ0 yJ0_charAt_5068e yJ0_charAt_5068e, Cond.code yJ0_charAt_5068e cJ0_charAt_5068e 2 (some .char)]
def wsX1_isDocumentName_r2 : List Cond := [Cond.methodLink RJ0 492 yJ0_isLatin1_aae02, Cond.instanceMethod yJ0_isLatin1_aae02, Cond.selects RJ0 yJ0_isLatin1_aae02 yJ0_isLatin1_aae02, Cond.code yJ0_isLatin1_aae02 cJ0_isLatin1_aae02 1 (some .boolean), Cond.methodLink RJ0 495 yJ1_charAt_3b067, Cond.static yJ1_charAt_3b067, Cond.initialized RJ1, Cond.code yJ1_charAt_3b067 cJ1_charAt_3b067 2 (some .char), Cond.methodLink RJ1 9 yJ0_checkIndex_df160, Cond.static yJ0_checkIndex_df160, Cond.code yJ0_checkIndex_df160 cJ0_checkIndex_df160 2 none, Cond.fieldLink RJ0 1053 "jdk/internal/util/Preconditions" "SIOOBE_FORMATTER" "Ljava/util/function/BiFunction;", Cond.methodLink RJ0 1059 yJ3_checkIndex_8e157, Cond.static yJ3_checkIndex_8e157, Cond.initialized RJ3, Cond.code yJ3_checkIndex_8e157 cJ3_checkIndex_8e157 3 (some .int), Cond.methodLink RJ0 498 yJ2_charAt_3b067, Cond.static yJ2_charAt_3b067, Cond.initialized RJ2, Cond.code yJ2_charAt_3b067 cJ2_charAt_3b067 2 (some .char), Cond.methodLink RJ2 67 yJ2_checkIndex_2214a, Cond.static yJ2_checkIndex_2214a, Cond.code yJ2_checkIndex_2214a cJ2_checkIndex_2214a 2 none, Cond.methodLink RJ2 48 yJ2_length_9d52b]
def wsX1_isDocumentName_r3 : List Cond := [Cond.static yJ2_length_9d52b, Cond.code yJ2_length_9d52b cJ2_length_9d52b 1 (some .int), Cond.methodLink RJ2 414 yJ0_checkIndex_df160, Cond.methodLink RJ2 71 yJ2_getChar_3b067, Cond.static yJ2_getChar_3b067, Cond.code yJ2_getChar_3b067 cJ2_getChar_3b067 2 (some .char), Cond.fieldLink RJ2 44 "java/lang/StringUTF16" "$assertionsDisabled" "Z", Cond.fieldLink RJ2 59 "java/lang/StringUTF16" "HI_BYTE_SHIFT" "I", Cond.fieldLink RJ2 63 "java/lang/StringUTF16" "LO_BYTE_SHIFT" "I"]
def wsX1_isDocumentName : List Cond := .code yX1_isDocumentName cX1_isDocumentName 4 (some .boolean) :: ((wsX1_isDocumentName_r1 ++ (wsX1_isDocumentName_r2 ++ wsX1_isDocumentName_r3)) ++ wsX10 ++ wsX80)
def wsX1_shareAlike : List Cond := .code yX1_shareAlike cX1_shareAlike 4 (some .int) :: ([.fieldLink RX1 13 "StreamRemuxer$ElementReader" "lacedSizes" "[I"] ++ wsX10)
def wsX1_readSummedSize : List Cond := .code yX1_readSummedSize cX1_readSummedSize 5 (some .long) :: ([.fieldLink RX1 180 "StreamRemuxer$ElementReader" "lacingAt" "I", .fieldLink RX1 24 "StreamRemuxer$ElementReader" "file" "LStreamRemuxer$Row;", .constantLong RX1 45 (-1), .methodLink RX1 105 yX8_at, .instanceMethod yX8_at, .selects RX8 yX8_at yX8_at, .initialized RX8, .code yX8_at cX8_at 2 (some .int), .fieldLink RX8 25 "StreamRemuxer$Row" "length" "I", .fieldLink RX8 21 "StreamRemuxer$Row" "words" "[I"] ++ wsX10 ++ wsX80)
def wsX1_readSizeOrDifference_r1 : List Cond := [Cond.fieldLink RX1 180 "StreamRemuxer$ElementReader" "lacingAt" "I", Cond.constantLong RX1 45 (-1), Cond.fieldLink RX1 13 "StreamRemuxer$ElementReader" "lacedSizes" "[I", Cond.methodLink RX1 150 yX1_sizeWidth, Cond.instanceMethod yX1_sizeWidth, Cond.selects RX1 yX1_sizeWidth yX1_sizeWidth, Cond.initialized RX1, Cond.code yX1_sizeWidth cX1_sizeWidth 4 (some .int), Cond.fieldLink RX1 24 "StreamRemuxer$ElementReader" "file" "LStreamRemuxer$Row;", Cond.methodLink RX1 105 yX8_at, Cond.instanceMethod yX8_at, Cond.selects RX8 yX8_at yX8_at, Cond.initialized RX8, Cond.code yX8_at cX8_at 2 (some .int), Cond.fieldLink RX8 25 "StreamRemuxer$Row" "length" "I", Cond.fieldLink RX8 21 "StreamRemuxer$Row" "words" "[I", Cond.methodLink RX1 111 yX1_markedWidth, Cond.static yX1_markedWidth, Cond.code yX1_markedWidth cX1_markedWidth 2 (some .int), Cond.methodLink RX1 153 yX1_sizeNumber, Cond.instanceMethod yX1_sizeNumber, Cond.selects RX1 yX1_sizeNumber yX1_sizeNumber, Cond.code yX1_sizeNumber cX1_sizeNumber 6 (some .long), Cond.methodLink RX1 146 yX0_highestSize]
def wsX1_readSizeOrDifference_r2 : List Cond := [Cond.static yX0_highestSize, Cond.initialized RX0, Cond.code yX0_highestSize cX0_highestSize 1 (some .long), Cond.constantLong RX0 7 (2), Cond.methodLink RX1 212 yX0_differenceShift, Cond.static yX0_differenceShift, Cond.code yX0_differenceShift cX0_differenceShift 1 (some .long)]
def wsX1_readSizeOrDifference : List Cond := .code yX1_readSizeOrDifference cX1_readSizeOrDifference 6 (some .long) :: ((wsX1_readSizeOrDifference_r1 ++ wsX1_readSizeOrDifference_r2) ++ wsX10 ++ wsX80)
def wsX1_readLacing_r1 : List Cond := [Cond.fieldLink RX1 180 "StreamRemuxer$ElementReader" "lacingAt" "I", Cond.fieldLink RX1 13 "StreamRemuxer$ElementReader" "lacedSizes" "[I", Cond.fieldLink RX1 24 "StreamRemuxer$ElementReader" "file" "LStreamRemuxer$Row;", Cond.methodLink RX1 105 yX8_at, Cond.instanceMethod yX8_at, Cond.selects RX8 yX8_at yX8_at, Cond.initialized RX8, Cond.code yX8_at cX8_at 2 (some .int), Cond.fieldLink RX8 25 "StreamRemuxer$Row" "length" "I", Cond.fieldLink RX8 21 "StreamRemuxer$Row" "words" "[I", Cond.methodLink RX1 203 yX1_shareAlike, Cond.instanceMethod yX1_shareAlike, Cond.selects RX1 yX1_shareAlike yX1_shareAlike, Cond.initialized RX1, Cond.code yX1_shareAlike cX1_shareAlike 4 (some .int), Cond.methodLink RX1 206 yX1_readSummedSize, Cond.instanceMethod yX1_readSummedSize, Cond.selects RX1 yX1_readSummedSize yX1_readSummedSize, Cond.code yX1_readSummedSize cX1_readSummedSize 5 (some .long), Cond.constantLong RX1 45 (-1), Cond.methodLink RX1 209 yX1_readSizeOrDifference, Cond.instanceMethod yX1_readSizeOrDifference, Cond.selects RX1 yX1_readSizeOrDifference yX1_readSizeOrDifference, Cond.code yX1_readSizeOrDifference cX1_readSizeOrDifference 6 (some .long)]
def wsX1_readLacing_r2 : List Cond := [Cond.methodLink RX1 150 yX1_sizeWidth, Cond.instanceMethod yX1_sizeWidth, Cond.selects RX1 yX1_sizeWidth yX1_sizeWidth, Cond.code yX1_sizeWidth cX1_sizeWidth 4 (some .int), Cond.methodLink RX1 111 yX1_markedWidth, Cond.static yX1_markedWidth, Cond.code yX1_markedWidth cX1_markedWidth 2 (some .int), Cond.methodLink RX1 153 yX1_sizeNumber, Cond.instanceMethod yX1_sizeNumber, Cond.selects RX1 yX1_sizeNumber yX1_sizeNumber, Cond.code yX1_sizeNumber cX1_sizeNumber 6 (some .long), Cond.methodLink RX1 146 yX0_highestSize, Cond.static yX0_highestSize, Cond.initialized RX0, Cond.code yX0_highestSize cX0_highestSize 1 (some .long), Cond.constantLong RX0 7 (2), Cond.methodLink RX1 212 yX0_differenceShift, Cond.static yX0_differenceShift, Cond.code yX0_differenceShift cX0_differenceShift 1 (some .long)]
def wsX1_readLacing : List Cond := .code yX1_readLacing cX1_readLacing 10 (some .int) :: ((wsX1_readLacing_r1 ++ wsX1_readLacing_r2) ++ wsX10 ++ wsX80)
def wsX4_hasRoom : List Cond := .code yX4_hasRoom cX4_hasRoom 3 (some .boolean) :: ([.fieldLink RX4 28 "StreamRemuxer$PacketList" "packets" "I", .fieldLink RX4 14 "StreamRemuxer$PacketList" "bytes" "LStreamRemuxer$Row;", .fieldLink RX4 61 "StreamRemuxer$Row" "length" "I"] ++ wsX40 ++ wsX80)
def wsX8_change : List Cond := .code yX8_change cX8_change 4 (some .boolean) :: ([.fieldLink RX8 25 "StreamRemuxer$Row" "length" "I", .fieldLink RX8 21 "StreamRemuxer$Row" "words" "[I"] ++ wsX80)
def wsX8_add : List Cond := .code yX8_add cX8_add 2 none :: ([.fieldLink RX8 25 "StreamRemuxer$Row" "length" "I", .fieldLink RX8 15 "StreamRemuxer$Row" "most" "I", .fieldLink RX8 28 "StreamRemuxer$Row" "overfull" "Z", .methodLink RX8 32 yX8_change, .instanceMethod yX8_change, .selects RX8 yX8_change yX8_change, .initialized RX8, .code yX8_change cX8_change 4 (some .boolean), .fieldLink RX8 21 "StreamRemuxer$Row" "words" "[I"] ++ wsX80)
def wsX8_addPart : List Cond := .code yX8_addPart cX8_addPart 5 none :: ([.methodLink RX8 40 yX8_at, .instanceMethod yX8_at, .selects RX8 yX8_at yX8_at, .initialized RX8, .code yX8_at cX8_at 2 (some .int), .fieldLink RX8 25 "StreamRemuxer$Row" "length" "I", .fieldLink RX8 21 "StreamRemuxer$Row" "words" "[I", .methodLink RX8 36 yX8_add, .instanceMethod yX8_add, .selects RX8 yX8_add yX8_add, .code yX8_add cX8_add 2 none, .fieldLink RX8 15 "StreamRemuxer$Row" "most" "I", .fieldLink RX8 28 "StreamRemuxer$Row" "overfull" "Z", .methodLink RX8 32 yX8_change, .instanceMethod yX8_change, .selects RX8 yX8_change yX8_change, .code yX8_change cX8_change 4 (some .boolean)] ++ wsX80)
def wsX4_endPacket : List Cond := .code yX4_endPacket cX4_endPacket 3 none :: ([.fieldLink RX4 28 "StreamRemuxer$PacketList" "packets" "I", .fieldLink RX4 20 "StreamRemuxer$PacketList" "ends" "[I", .fieldLink RX4 14 "StreamRemuxer$PacketList" "bytes" "LStreamRemuxer$Row;", .fieldLink RX4 61 "StreamRemuxer$Row" "length" "I", .fieldLink RX4 24 "StreamRemuxer$PacketList" "times" "[J"] ++ wsX40 ++ wsX80)
def wsX1_takePackets_r1 : List Cond := [Cond.fieldLink RX1 180 "StreamRemuxer$ElementReader" "lacingAt" "I", Cond.fieldLink RX1 13 "StreamRemuxer$ElementReader" "lacedSizes" "[I", Cond.fieldLink RX1 28 "StreamRemuxer$ElementReader" "target" "LStreamRemuxer$PacketList;", Cond.fieldLink RX1 192 "StreamRemuxer$PacketList" "bytes" "LStreamRemuxer$Row;", Cond.fieldLink RX1 24 "StreamRemuxer$ElementReader" "file" "LStreamRemuxer$Row;", Cond.constantLong RX1 45 (-1), Cond.methodLink RX1 195 yX8_addPart, Cond.instanceMethod yX8_addPart, Cond.selects RX8 yX8_addPart yX8_addPart, Cond.initialized RX8, Cond.code yX8_addPart cX8_addPart 5 none, Cond.methodLink RX8 40 yX8_at, Cond.instanceMethod yX8_at, Cond.selects RX8 yX8_at yX8_at, Cond.code yX8_at cX8_at 2 (some .int), Cond.fieldLink RX8 25 "StreamRemuxer$Row" "length" "I", Cond.fieldLink RX8 21 "StreamRemuxer$Row" "words" "[I", Cond.methodLink RX8 36 yX8_add, Cond.instanceMethod yX8_add, Cond.selects RX8 yX8_add yX8_add, Cond.code yX8_add cX8_add 2 none, Cond.fieldLink RX8 15 "StreamRemuxer$Row" "most" "I", Cond.fieldLink RX8 28 "StreamRemuxer$Row" "overfull" "Z", Cond.methodLink RX8 32 yX8_change]
def wsX1_takePackets_r2 : List Cond := [Cond.instanceMethod yX8_change, Cond.selects RX8 yX8_change yX8_change, Cond.code yX8_change cX8_change 4 (some .boolean), Cond.methodLink RX1 199 yX4_endPacket, Cond.instanceMethod yX4_endPacket, Cond.selects RX4 yX4_endPacket yX4_endPacket, Cond.initialized RX4, Cond.code yX4_endPacket cX4_endPacket 3 none, Cond.fieldLink RX4 28 "StreamRemuxer$PacketList" "packets" "I", Cond.fieldLink RX4 20 "StreamRemuxer$PacketList" "ends" "[I", Cond.fieldLink RX4 14 "StreamRemuxer$PacketList" "bytes" "LStreamRemuxer$Row;", Cond.fieldLink RX4 61 "StreamRemuxer$Row" "length" "I", Cond.fieldLink RX4 24 "StreamRemuxer$PacketList" "times" "[J"]
def wsX1_takePackets : List Cond := .code yX1_takePackets cX1_takePackets 6 none :: ((wsX1_takePackets_r1 ++ wsX1_takePackets_r2) ++ wsX10 ++ wsX40 ++ wsX80)
def wsX1_readBlock_r1 : List Cond := [Cond.fieldLink RX1 51 "StreamRemuxer$ElementReader" "clusterTime" "J", Cond.constantLong RX1 45 (-1), Cond.fieldLink RX1 47 "StreamRemuxer$ElementReader" "trackNumber" "J", Cond.fieldLink RX1 24 "StreamRemuxer$ElementReader" "file" "LStreamRemuxer$Row;", Cond.constantLong RX1 174 (1099511627775), Cond.fieldLink RX1 28 "StreamRemuxer$ElementReader" "target" "LStreamRemuxer$PacketList;", Cond.fieldLink RX1 180 "StreamRemuxer$ElementReader" "lacingAt" "I", Cond.fieldLink RX1 42 "StreamRemuxer$ElementReader" "blocks" "I", Cond.methodLink RX1 71 yX1_fail, Cond.instanceMethod yX1_fail, Cond.selects RX1 yX1_fail yX1_fail, Cond.initialized RX1, Cond.code yX1_fail cX1_fail 3 (some .int), Cond.fieldLink RX1 32 "StreamRemuxer$ElementReader" "fault" "I", Cond.fieldLink RX1 36 "StreamRemuxer$ElementReader" "place" "I", Cond.methodLink RX1 150 yX1_sizeWidth, Cond.instanceMethod yX1_sizeWidth, Cond.selects RX1 yX1_sizeWidth yX1_sizeWidth, Cond.code yX1_sizeWidth cX1_sizeWidth 4 (some .int), Cond.methodLink RX1 105 yX8_at, Cond.instanceMethod yX8_at, Cond.selects RX8 yX8_at yX8_at, Cond.initialized RX8, Cond.code yX8_at cX8_at 2 (some .int)]
def wsX1_readBlock_r2 : List Cond := [Cond.fieldLink RX8 25 "StreamRemuxer$Row" "length" "I", Cond.fieldLink RX8 21 "StreamRemuxer$Row" "words" "[I", Cond.methodLink RX1 111 yX1_markedWidth, Cond.static yX1_markedWidth, Cond.code yX1_markedWidth cX1_markedWidth 2 (some .int), Cond.methodLink RX1 153 yX1_sizeNumber, Cond.instanceMethod yX1_sizeNumber, Cond.selects RX1 yX1_sizeNumber yX1_sizeNumber, Cond.code yX1_sizeNumber cX1_sizeNumber 6 (some .long), Cond.methodLink RX1 146 yX0_highestSize, Cond.static yX0_highestSize, Cond.initialized RX0, Cond.code yX0_highestSize cX0_highestSize 1 (some .long), Cond.constantLong RX0 7 (2), Cond.methodLink RX1 143 yX8_highFirst, Cond.instanceMethod yX8_highFirst, Cond.selects RX8 yX8_highFirst yX8_highFirst, Cond.code yX8_highFirst cX8_highFirst 6 (some .long), Cond.methodLink RX8 40 yX8_at, Cond.methodLink RX1 176 yX1_readLacing, Cond.instanceMethod yX1_readLacing, Cond.selects RX1 yX1_readLacing yX1_readLacing, Cond.code yX1_readLacing cX1_readLacing 10 (some .int), Cond.fieldLink RX1 13 "StreamRemuxer$ElementReader" "lacedSizes" "[I"]
def wsX1_readBlock_r3 : List Cond := [Cond.methodLink RX1 203 yX1_shareAlike, Cond.instanceMethod yX1_shareAlike, Cond.selects RX1 yX1_shareAlike yX1_shareAlike, Cond.code yX1_shareAlike cX1_shareAlike 4 (some .int), Cond.methodLink RX1 206 yX1_readSummedSize, Cond.instanceMethod yX1_readSummedSize, Cond.selects RX1 yX1_readSummedSize yX1_readSummedSize, Cond.code yX1_readSummedSize cX1_readSummedSize 5 (some .long), Cond.methodLink RX1 209 yX1_readSizeOrDifference, Cond.instanceMethod yX1_readSizeOrDifference, Cond.selects RX1 yX1_readSizeOrDifference yX1_readSizeOrDifference, Cond.code yX1_readSizeOrDifference cX1_readSizeOrDifference 6 (some .long), Cond.methodLink RX1 212 yX0_differenceShift, Cond.static yX0_differenceShift, Cond.code yX0_differenceShift cX0_differenceShift 1 (some .long), Cond.methodLink RX1 183 yX4_hasRoom, Cond.instanceMethod yX4_hasRoom, Cond.selects RX4 yX4_hasRoom yX4_hasRoom, Cond.initialized RX4, Cond.code yX4_hasRoom cX4_hasRoom 3 (some .boolean), Cond.fieldLink RX4 28 "StreamRemuxer$PacketList" "packets" "I", Cond.fieldLink RX4 14 "StreamRemuxer$PacketList" "bytes" "LStreamRemuxer$Row;", Cond.fieldLink RX4 61 "StreamRemuxer$Row" "length" "I", Cond.methodLink RX1 188 yX1_takePackets]
def wsX1_readBlock_r4 : List Cond := [Cond.instanceMethod yX1_takePackets, Cond.selects RX1 yX1_takePackets yX1_takePackets, Cond.code yX1_takePackets cX1_takePackets 6 none, Cond.fieldLink RX1 192 "StreamRemuxer$PacketList" "bytes" "LStreamRemuxer$Row;", Cond.methodLink RX1 195 yX8_addPart, Cond.instanceMethod yX8_addPart, Cond.selects RX8 yX8_addPart yX8_addPart, Cond.code yX8_addPart cX8_addPart 5 none, Cond.methodLink RX8 36 yX8_add, Cond.instanceMethod yX8_add, Cond.selects RX8 yX8_add yX8_add, Cond.code yX8_add cX8_add 2 none, Cond.fieldLink RX8 15 "StreamRemuxer$Row" "most" "I", Cond.fieldLink RX8 28 "StreamRemuxer$Row" "overfull" "Z", Cond.methodLink RX8 32 yX8_change, Cond.instanceMethod yX8_change, Cond.selects RX8 yX8_change yX8_change, Cond.code yX8_change cX8_change 4 (some .boolean), Cond.methodLink RX1 199 yX4_endPacket, Cond.instanceMethod yX4_endPacket, Cond.selects RX4 yX4_endPacket yX4_endPacket, Cond.code yX4_endPacket cX4_endPacket 3 none, Cond.fieldLink RX4 20 "StreamRemuxer$PacketList" "ends" "[I", Cond.fieldLink RX4 24 "StreamRemuxer$PacketList" "times" "[J"]
def wsX1_readBlock : List Cond := .code yX1_readBlock cX1_readBlock 11 (some .int) :: ((wsX1_readBlock_r1 ++ (wsX1_readBlock_r2 ++ (wsX1_readBlock_r3 ++ wsX1_readBlock_r4))) ++ wsX10 ++ wsX80 ++ wsX40)
def wsX1_readElement_r1 : List Cond := [Cond.fieldLink RX1 61 "StreamRemuxer$Level" "end" "I", Cond.fieldLink RX1 84 "StreamRemuxer$Level" "tillCluster" "Z", Cond.constant RX1 88 (524531317), Cond.fieldLink RX1 75 "StreamRemuxer$Level" "id" "I", Cond.fieldLink RX1 81 "StreamRemuxer$Level" "seen" "I", Cond.fieldLink RX1 24 "StreamRemuxer$ElementReader" "file" "LStreamRemuxer$Row;", Cond.fieldLink RX1 89 "StreamRemuxer$ElementReader" "bodySize" "J", Cond.constantLong RX1 45 (-1), Cond.methodLink RX1 96 yX1_readId, Cond.instanceMethod yX1_readId, Cond.selects RX1 yX1_readId yX1_readId, Cond.initialized RX1, Cond.code yX1_readId cX1_readId 4 (some .int), Cond.methodLink RX1 105 yX8_at, Cond.instanceMethod yX8_at, Cond.selects RX8 yX8_at yX8_at, Cond.initialized RX8, Cond.code yX8_at cX8_at 2 (some .int), Cond.fieldLink RX8 25 "StreamRemuxer$Row" "length" "I", Cond.fieldLink RX8 21 "StreamRemuxer$Row" "words" "[I", Cond.methodLink RX1 111 yX1_markedWidth, Cond.static yX1_markedWidth, Cond.code yX1_markedWidth cX1_markedWidth 2 (some .int), Cond.methodLink RX1 71 yX1_fail]
def wsX1_readElement_r2 : List Cond := [Cond.instanceMethod yX1_fail, Cond.selects RX1 yX1_fail yX1_fail, Cond.code yX1_fail cX1_fail 3 (some .int), Cond.fieldLink RX1 32 "StreamRemuxer$ElementReader" "fault" "I", Cond.fieldLink RX1 36 "StreamRemuxer$ElementReader" "place" "I", Cond.methodLink RX1 143 yX8_highFirst, Cond.instanceMethod yX8_highFirst, Cond.selects RX8 yX8_highFirst yX8_highFirst, Cond.code yX8_highFirst cX8_highFirst 6 (some .long), Cond.methodLink RX8 40 yX8_at, Cond.methodLink RX1 68 yX1_closeLevel, Cond.instanceMethod yX1_closeLevel, Cond.selects RX1 yX1_closeLevel yX1_closeLevel, Cond.code yX1_closeLevel cX1_closeLevel 3 (some .int), Cond.fieldLink RX1 78 "StreamRemuxer$Level" "missingPlace" "I", Cond.fieldLink RX1 54 "StreamRemuxer$ElementReader" "depth" "I", Cond.methodLink RX1 92 yX1_lacksSome, Cond.static yX1_lacksSome, Cond.code yX1_lacksSome cX1_lacksSome 4 (some .boolean), Cond.constantLong RX1 134 (2), Cond.methodLink RX1 117 yX1_column, Cond.static yX1_column, Cond.code yX1_column cX1_column 3 (some .long), Cond.fieldLink RX1 130 "StreamRemuxer$ElementReader" "TOLD" "[J"]
def wsX1_readElement_r3 : List Cond := [Cond.methodLink RX1 99 yX1_rowOf, Cond.static yX1_rowOf, Cond.code yX1_rowOf cX1_rowOf 5 (some .int), Cond.methodLink RX1 102 yX1_mayStand, Cond.static yX1_mayStand, Cond.code yX1_mayStand cX1_mayStand 2 (some .boolean), Cond.constant RX1 136 (408125543), Cond.constant RX1 141 (440786851), Cond.constant RX1 142 (374648427), Cond.methodLink RX1 137 yX1_isSeen, Cond.static yX1_isSeen, Cond.code yX1_isSeen cX1_isSeen 4 (some .boolean), Cond.methodLink RX1 114 yX1_readSize, Cond.instanceMethod yX1_readSize, Cond.selects RX1 yX1_readSize yX1_readSize, Cond.code yX1_readSize cX1_readSize 7 (some .int), Cond.constantLong RX1 156 (2147483647), Cond.methodLink RX1 150 yX1_sizeWidth, Cond.instanceMethod yX1_sizeWidth, Cond.selects RX1 yX1_sizeWidth yX1_sizeWidth, Cond.code yX1_sizeWidth cX1_sizeWidth 4 (some .int), Cond.methodLink RX1 153 yX1_sizeNumber, Cond.instanceMethod yX1_sizeNumber, Cond.selects RX1 yX1_sizeNumber yX1_sizeNumber]
def wsX1_readElement_r4 : List Cond := [Cond.code yX1_sizeNumber cX1_sizeNumber 6 (some .long), Cond.methodLink RX1 146 yX0_highestSize, Cond.static yX0_highestSize, Cond.initialized RX0, Cond.code yX0_highestSize cX0_highestSize 1 (some .long), Cond.constantLong RX0 7 (2), Cond.methodLink RX1 57 yX1_openLevel, Cond.instanceMethod yX1_openLevel, Cond.selects RX1 yX1_openLevel yX1_openLevel, Cond.code yX1_openLevel cX1_openLevel 6 (some .int), Cond.fieldLink RX1 19 "StreamRemuxer$ElementReader" "levels" "[LStreamRemuxer$Level;", Cond.fieldLink RX1 39 "StreamRemuxer$ElementReader" "clusters" "I", Cond.fieldLink RX1 51 "StreamRemuxer$ElementReader" "clusterTime" "J", Cond.methodLink RX1 121 yX1_readUint, Cond.instanceMethod yX1_readUint, Cond.selects RX1 yX1_readUint yX1_readUint, Cond.code yX1_readUint cX1_readUint 7 (some .int), Cond.constantLong RX1 158 (215), Cond.fieldLink RX1 47 "StreamRemuxer$ElementReader" "trackNumber" "J", Cond.constantLong RX1 160 (231), Cond.methodLink RX1 124 yX1_isDocumentName, Cond.instanceMethod yX1_isDocumentName, Cond.selects RX1 yX1_isDocumentName yX1_isDocumentName, Cond.code yX1_isDocumentName cX1_isDocumentName 4 (some .boolean)]
def wsX1_readElement_r5 : List Cond := [Cond.methodLink RX1 164 yJ0_length_8abf5, Cond.instanceMethod yJ0_length_8abf5, Cond.selects RJ0 yJ0_length_8abf5 yJ0_length_8abf5, Cond.initialized RJ0, Cond.code yJ0_length_8abf5 cJ0_length_8abf5 1 (some .int), Cond.fieldLink RJ0 9 "java/lang/String" "value" "[B", Cond.methodLink RJ0 335 yJ0_coder_7d493, Cond.instanceMethod yJ0_coder_7d493, Cond.selects RJ0 yJ0_coder_7d493 yJ0_coder_7d493, Cond.code yJ0_coder_7d493 cJ0_coder_7d493 1 (some .byte), Cond.fieldLink RJ0 38 "java/lang/String" "COMPACT_STRINGS" "Z", Cond.fieldLink RJ0 15 "java/lang/String" "coder" "B", Cond.methodLink RX1 170 yJ0_charAt_5068e, Cond.instanceMethod yJ0_charAt_5068e, Cond.selects RJ0 yJ0_charAt_5068e yJ0_charAt_5068e, Cond.code yJ0_charAt_5068e cJ0_charAt_5068e 2 (some .char), Cond.methodLink RJ0 492 yJ0_isLatin1_aae02, Cond.instanceMethod yJ0_isLatin1_aae02, Cond.selects RJ0 yJ0_isLatin1_aae02 yJ0_isLatin1_aae02, Cond.code yJ0_isLatin1_aae02 cJ0_isLatin1_aae02 1 (some .boolean), Cond.methodLink RJ0 495 yJ1_charAt_3b067, Cond.static yJ1_charAt_3b067, Cond.initialized RJ1, Cond.code yJ1_charAt_3b067 cJ1_charAt_3b067 2 (some .char)]
def wsX1_readElement_r6 : List Cond := [Cond.methodLink RJ1 9 yJ0_checkIndex_df160, Cond.static yJ0_checkIndex_df160, Cond.code yJ0_checkIndex_df160 cJ0_checkIndex_df160 2 none, Cond.fieldLink RJ0 1053 "jdk/internal/util/Preconditions" "SIOOBE_FORMATTER" "Ljava/util/function/BiFunction;", Cond.methodLink RJ0 1059 yJ3_checkIndex_8e157, Cond.static yJ3_checkIndex_8e157, Cond.initialized RJ3, Cond.code yJ3_checkIndex_8e157 cJ3_checkIndex_8e157 3 (some .int), Cond.methodLink RJ0 498 yJ2_charAt_3b067, Cond.static yJ2_charAt_3b067, Cond.initialized RJ2, Cond.code yJ2_charAt_3b067 cJ2_charAt_3b067 2 (some .char), Cond.methodLink RJ2 67 yJ2_checkIndex_2214a, Cond.static yJ2_checkIndex_2214a, Cond.code yJ2_checkIndex_2214a cJ2_checkIndex_2214a 2 none, Cond.methodLink RJ2 48 yJ2_length_9d52b, Cond.static yJ2_length_9d52b, Cond.code yJ2_length_9d52b cJ2_length_9d52b 1 (some .int), Cond.methodLink RJ2 414 yJ0_checkIndex_df160, Cond.methodLink RJ2 71 yJ2_getChar_3b067, Cond.static yJ2_getChar_3b067, Cond.code yJ2_getChar_3b067 cJ2_getChar_3b067 2 (some .char), Cond.fieldLink RJ2 44 "java/lang/StringUTF16" "$assertionsDisabled" "Z", Cond.fieldLink RJ2 59 "java/lang/StringUTF16" "HI_BYTE_SHIFT" "I"]
def wsX1_readElement_r7 : List Cond := [Cond.fieldLink RJ2 63 "java/lang/StringUTF16" "LO_BYTE_SHIFT" "I", Cond.methodLink RX1 127 yX1_readBlock, Cond.instanceMethod yX1_readBlock, Cond.selects RX1 yX1_readBlock yX1_readBlock, Cond.code yX1_readBlock cX1_readBlock 11 (some .int), Cond.constantLong RX1 174 (1099511627775), Cond.fieldLink RX1 28 "StreamRemuxer$ElementReader" "target" "LStreamRemuxer$PacketList;", Cond.fieldLink RX1 180 "StreamRemuxer$ElementReader" "lacingAt" "I", Cond.fieldLink RX1 42 "StreamRemuxer$ElementReader" "blocks" "I", Cond.methodLink RX1 176 yX1_readLacing, Cond.instanceMethod yX1_readLacing, Cond.selects RX1 yX1_readLacing yX1_readLacing, Cond.code yX1_readLacing cX1_readLacing 10 (some .int), Cond.fieldLink RX1 13 "StreamRemuxer$ElementReader" "lacedSizes" "[I", Cond.methodLink RX1 203 yX1_shareAlike, Cond.instanceMethod yX1_shareAlike, Cond.selects RX1 yX1_shareAlike yX1_shareAlike, Cond.code yX1_shareAlike cX1_shareAlike 4 (some .int), Cond.methodLink RX1 206 yX1_readSummedSize, Cond.instanceMethod yX1_readSummedSize, Cond.selects RX1 yX1_readSummedSize yX1_readSummedSize, Cond.code yX1_readSummedSize cX1_readSummedSize 5 (some .long), Cond.methodLink RX1 209 yX1_readSizeOrDifference, Cond.instanceMethod yX1_readSizeOrDifference]
def wsX1_readElement_r8 : List Cond := [Cond.selects RX1 yX1_readSizeOrDifference yX1_readSizeOrDifference, Cond.code yX1_readSizeOrDifference cX1_readSizeOrDifference 6 (some .long), Cond.methodLink RX1 212 yX0_differenceShift, Cond.static yX0_differenceShift, Cond.code yX0_differenceShift cX0_differenceShift 1 (some .long), Cond.methodLink RX1 183 yX4_hasRoom, Cond.instanceMethod yX4_hasRoom, Cond.selects RX4 yX4_hasRoom yX4_hasRoom, Cond.initialized RX4, Cond.code yX4_hasRoom cX4_hasRoom 3 (some .boolean), Cond.fieldLink RX4 28 "StreamRemuxer$PacketList" "packets" "I", Cond.fieldLink RX4 14 "StreamRemuxer$PacketList" "bytes" "LStreamRemuxer$Row;", Cond.fieldLink RX4 61 "StreamRemuxer$Row" "length" "I", Cond.methodLink RX1 188 yX1_takePackets, Cond.instanceMethod yX1_takePackets, Cond.selects RX1 yX1_takePackets yX1_takePackets, Cond.code yX1_takePackets cX1_takePackets 6 none, Cond.fieldLink RX1 192 "StreamRemuxer$PacketList" "bytes" "LStreamRemuxer$Row;", Cond.methodLink RX1 195 yX8_addPart, Cond.instanceMethod yX8_addPart, Cond.selects RX8 yX8_addPart yX8_addPart, Cond.code yX8_addPart cX8_addPart 5 none, Cond.methodLink RX8 36 yX8_add, Cond.instanceMethod yX8_add]
def wsX1_readElement_r9 : List Cond := [Cond.selects RX8 yX8_add yX8_add, Cond.code yX8_add cX8_add 2 none, Cond.fieldLink RX8 15 "StreamRemuxer$Row" "most" "I", Cond.fieldLink RX8 28 "StreamRemuxer$Row" "overfull" "Z", Cond.methodLink RX8 32 yX8_change, Cond.instanceMethod yX8_change, Cond.selects RX8 yX8_change yX8_change, Cond.code yX8_change cX8_change 4 (some .boolean), Cond.methodLink RX1 199 yX4_endPacket, Cond.instanceMethod yX4_endPacket, Cond.selects RX4 yX4_endPacket yX4_endPacket, Cond.code yX4_endPacket cX4_endPacket 3 none, Cond.fieldLink RX4 20 "StreamRemuxer$PacketList" "ends" "[I", Cond.fieldLink RX4 24 "StreamRemuxer$PacketList" "times" "[J"]
def wsX1_readElement : List Cond := .code yX1_readElement cX1_readElement 7 (some .int) :: ((wsX1_readElement_r1 ++ (wsX1_readElement_r2 ++ (wsX1_readElement_r3 ++ (wsX1_readElement_r4 ++ (wsX1_readElement_r5 ++ (wsX1_readElement_r6 ++ (wsX1_readElement_r7 ++ (wsX1_readElement_r8 ++ wsX1_readElement_r9)))))))) ++ wsX30 ++ wsX10 ++ wsX80 ++ wsX40)
def wsX1_read_r1 : List Cond := [Cond.fieldLink RX1 24 "StreamRemuxer$ElementReader" "file" "LStreamRemuxer$Row;", Cond.fieldLink RX1 28 "StreamRemuxer$ElementReader" "target" "LStreamRemuxer$PacketList;", Cond.fieldLink RX1 32 "StreamRemuxer$ElementReader" "fault" "I", Cond.fieldLink RX1 36 "StreamRemuxer$ElementReader" "place" "I", Cond.fieldLink RX1 39 "StreamRemuxer$ElementReader" "clusters" "I", Cond.fieldLink RX1 42 "StreamRemuxer$ElementReader" "blocks" "I", Cond.constantLong RX1 45 (-1), Cond.fieldLink RX1 47 "StreamRemuxer$ElementReader" "trackNumber" "J", Cond.fieldLink RX1 51 "StreamRemuxer$ElementReader" "clusterTime" "J", Cond.fieldLink RX1 54 "StreamRemuxer$ElementReader" "depth" "I", Cond.fieldLink RX1 19 "StreamRemuxer$ElementReader" "levels" "[LStreamRemuxer$Level;", Cond.fieldLink RX1 61 "StreamRemuxer$Level" "end" "I", Cond.methodLink RX1 57 yX1_openLevel, Cond.instanceMethod yX1_openLevel, Cond.selects RX1 yX1_openLevel yX1_openLevel, Cond.initialized RX1, Cond.code yX1_openLevel cX1_openLevel 6 (some .int), Cond.fieldLink RX1 75 "StreamRemuxer$Level" "id" "I", Cond.fieldLink RX1 78 "StreamRemuxer$Level" "missingPlace" "I", Cond.fieldLink RX1 81 "StreamRemuxer$Level" "seen" "I", Cond.fieldLink RX1 84 "StreamRemuxer$Level" "tillCluster" "Z", Cond.constant RX1 88 (524531317), Cond.fieldLink RX1 89 "StreamRemuxer$ElementReader" "bodySize" "J", Cond.methodLink RX1 71 yX1_fail]
def wsX1_read_r2 : List Cond := [Cond.instanceMethod yX1_fail, Cond.selects RX1 yX1_fail yX1_fail, Cond.code yX1_fail cX1_fail 3 (some .int), Cond.methodLink RX1 64 yX1_readElement, Cond.instanceMethod yX1_readElement, Cond.selects RX1 yX1_readElement yX1_readElement, Cond.code yX1_readElement cX1_readElement 7 (some .int), Cond.methodLink RX1 96 yX1_readId, Cond.instanceMethod yX1_readId, Cond.selects RX1 yX1_readId yX1_readId, Cond.code yX1_readId cX1_readId 4 (some .int), Cond.methodLink RX1 105 yX8_at, Cond.instanceMethod yX8_at, Cond.selects RX8 yX8_at yX8_at, Cond.initialized RX8, Cond.code yX8_at cX8_at 2 (some .int), Cond.fieldLink RX8 25 "StreamRemuxer$Row" "length" "I", Cond.fieldLink RX8 21 "StreamRemuxer$Row" "words" "[I", Cond.methodLink RX1 111 yX1_markedWidth, Cond.static yX1_markedWidth, Cond.code yX1_markedWidth cX1_markedWidth 2 (some .int), Cond.methodLink RX1 143 yX8_highFirst, Cond.instanceMethod yX8_highFirst, Cond.selects RX8 yX8_highFirst yX8_highFirst]
def wsX1_read_r3 : List Cond := [Cond.code yX8_highFirst cX8_highFirst 6 (some .long), Cond.methodLink RX8 40 yX8_at, Cond.methodLink RX1 68 yX1_closeLevel, Cond.instanceMethod yX1_closeLevel, Cond.selects RX1 yX1_closeLevel yX1_closeLevel, Cond.code yX1_closeLevel cX1_closeLevel 3 (some .int), Cond.methodLink RX1 92 yX1_lacksSome, Cond.static yX1_lacksSome, Cond.code yX1_lacksSome cX1_lacksSome 4 (some .boolean), Cond.constantLong RX1 134 (2), Cond.methodLink RX1 117 yX1_column, Cond.static yX1_column, Cond.code yX1_column cX1_column 3 (some .long), Cond.fieldLink RX1 130 "StreamRemuxer$ElementReader" "TOLD" "[J", Cond.methodLink RX1 99 yX1_rowOf, Cond.static yX1_rowOf, Cond.code yX1_rowOf cX1_rowOf 5 (some .int), Cond.methodLink RX1 102 yX1_mayStand, Cond.static yX1_mayStand, Cond.code yX1_mayStand cX1_mayStand 2 (some .boolean), Cond.constant RX1 136 (408125543), Cond.constant RX1 141 (440786851), Cond.constant RX1 142 (374648427), Cond.methodLink RX1 137 yX1_isSeen]
def wsX1_read_r4 : List Cond := [Cond.static yX1_isSeen, Cond.code yX1_isSeen cX1_isSeen 4 (some .boolean), Cond.methodLink RX1 114 yX1_readSize, Cond.instanceMethod yX1_readSize, Cond.selects RX1 yX1_readSize yX1_readSize, Cond.code yX1_readSize cX1_readSize 7 (some .int), Cond.constantLong RX1 156 (2147483647), Cond.methodLink RX1 150 yX1_sizeWidth, Cond.instanceMethod yX1_sizeWidth, Cond.selects RX1 yX1_sizeWidth yX1_sizeWidth, Cond.code yX1_sizeWidth cX1_sizeWidth 4 (some .int), Cond.methodLink RX1 153 yX1_sizeNumber, Cond.instanceMethod yX1_sizeNumber, Cond.selects RX1 yX1_sizeNumber yX1_sizeNumber, Cond.code yX1_sizeNumber cX1_sizeNumber 6 (some .long), Cond.methodLink RX1 146 yX0_highestSize, Cond.static yX0_highestSize, Cond.initialized RX0, Cond.code yX0_highestSize cX0_highestSize 1 (some .long), Cond.constantLong RX0 7 (2), Cond.methodLink RX1 121 yX1_readUint, Cond.instanceMethod yX1_readUint, Cond.selects RX1 yX1_readUint yX1_readUint, Cond.code yX1_readUint cX1_readUint 7 (some .int)]
def wsX1_read_r5 : List Cond := [Cond.constantLong RX1 158 (215), Cond.constantLong RX1 160 (231), Cond.methodLink RX1 124 yX1_isDocumentName, Cond.instanceMethod yX1_isDocumentName, Cond.selects RX1 yX1_isDocumentName yX1_isDocumentName, Cond.code yX1_isDocumentName cX1_isDocumentName 4 (some .boolean), Cond.methodLink RX1 164 yJ0_length_8abf5, Cond.instanceMethod yJ0_length_8abf5, Cond.selects RJ0 yJ0_length_8abf5 yJ0_length_8abf5, Cond.initialized RJ0, Cond.code yJ0_length_8abf5 cJ0_length_8abf5 1 (some .int), Cond.fieldLink RJ0 9 "java/lang/String" "value" "[B", Cond.methodLink RJ0 335 yJ0_coder_7d493, Cond.instanceMethod yJ0_coder_7d493, Cond.selects RJ0 yJ0_coder_7d493 yJ0_coder_7d493, Cond.code yJ0_coder_7d493 cJ0_coder_7d493 1 (some .byte), Cond.fieldLink RJ0 38 "java/lang/String" "COMPACT_STRINGS" "Z", Cond.fieldLink RJ0 15 "java/lang/String" "coder" "B", Cond.methodLink RX1 170 yJ0_charAt_5068e, Cond.instanceMethod yJ0_charAt_5068e, Cond.selects RJ0 yJ0_charAt_5068e yJ0_charAt_5068e, Cond.code yJ0_charAt_5068e cJ0_charAt_5068e 2 (some .char), Cond.methodLink RJ0 492 yJ0_isLatin1_aae02, Cond.instanceMethod yJ0_isLatin1_aae02]
def wsX1_read_r6 : List Cond := [Cond.selects RJ0 yJ0_isLatin1_aae02 yJ0_isLatin1_aae02, Cond.code yJ0_isLatin1_aae02 cJ0_isLatin1_aae02 1 (some .boolean), Cond.methodLink RJ0 495 yJ1_charAt_3b067, Cond.static yJ1_charAt_3b067, Cond.initialized RJ1, Cond.code yJ1_charAt_3b067 cJ1_charAt_3b067 2 (some .char), Cond.methodLink RJ1 9 yJ0_checkIndex_df160, Cond.static yJ0_checkIndex_df160, Cond.code yJ0_checkIndex_df160 cJ0_checkIndex_df160 2 none, Cond.fieldLink RJ0 1053 "jdk/internal/util/Preconditions" "SIOOBE_FORMATTER" "Ljava/util/function/BiFunction;", Cond.methodLink RJ0 1059 yJ3_checkIndex_8e157, Cond.static yJ3_checkIndex_8e157, Cond.initialized RJ3, Cond.code yJ3_checkIndex_8e157 cJ3_checkIndex_8e157 3 (some .int), Cond.methodLink RJ0 498 yJ2_charAt_3b067, Cond.static yJ2_charAt_3b067, Cond.initialized RJ2, Cond.code yJ2_charAt_3b067 cJ2_charAt_3b067 2 (some .char), Cond.methodLink RJ2 67 yJ2_checkIndex_2214a, Cond.static yJ2_checkIndex_2214a, Cond.code yJ2_checkIndex_2214a cJ2_checkIndex_2214a 2 none, Cond.methodLink RJ2 48 yJ2_length_9d52b, Cond.static yJ2_length_9d52b, Cond.code yJ2_length_9d52b cJ2_length_9d52b 1 (some .int)]
def wsX1_read_r7 : List Cond := [Cond.methodLink RJ2 414 yJ0_checkIndex_df160, Cond.methodLink RJ2 71 yJ2_getChar_3b067, Cond.static yJ2_getChar_3b067, Cond.code yJ2_getChar_3b067 cJ2_getChar_3b067 2 (some .char), Cond.fieldLink RJ2 44 "java/lang/StringUTF16" "$assertionsDisabled" "Z", Cond.fieldLink RJ2 59 "java/lang/StringUTF16" "HI_BYTE_SHIFT" "I", Cond.fieldLink RJ2 63 "java/lang/StringUTF16" "LO_BYTE_SHIFT" "I", Cond.methodLink RX1 127 yX1_readBlock, Cond.instanceMethod yX1_readBlock, Cond.selects RX1 yX1_readBlock yX1_readBlock, Cond.code yX1_readBlock cX1_readBlock 11 (some .int), Cond.constantLong RX1 174 (1099511627775), Cond.fieldLink RX1 180 "StreamRemuxer$ElementReader" "lacingAt" "I", Cond.methodLink RX1 176 yX1_readLacing, Cond.instanceMethod yX1_readLacing, Cond.selects RX1 yX1_readLacing yX1_readLacing, Cond.code yX1_readLacing cX1_readLacing 10 (some .int), Cond.fieldLink RX1 13 "StreamRemuxer$ElementReader" "lacedSizes" "[I", Cond.methodLink RX1 203 yX1_shareAlike, Cond.instanceMethod yX1_shareAlike, Cond.selects RX1 yX1_shareAlike yX1_shareAlike, Cond.code yX1_shareAlike cX1_shareAlike 4 (some .int), Cond.methodLink RX1 206 yX1_readSummedSize, Cond.instanceMethod yX1_readSummedSize]
def wsX1_read_r8 : List Cond := [Cond.selects RX1 yX1_readSummedSize yX1_readSummedSize, Cond.code yX1_readSummedSize cX1_readSummedSize 5 (some .long), Cond.methodLink RX1 209 yX1_readSizeOrDifference, Cond.instanceMethod yX1_readSizeOrDifference, Cond.selects RX1 yX1_readSizeOrDifference yX1_readSizeOrDifference, Cond.code yX1_readSizeOrDifference cX1_readSizeOrDifference 6 (some .long), Cond.methodLink RX1 212 yX0_differenceShift, Cond.static yX0_differenceShift, Cond.code yX0_differenceShift cX0_differenceShift 1 (some .long), Cond.methodLink RX1 183 yX4_hasRoom, Cond.instanceMethod yX4_hasRoom, Cond.selects RX4 yX4_hasRoom yX4_hasRoom, Cond.initialized RX4, Cond.code yX4_hasRoom cX4_hasRoom 3 (some .boolean), Cond.fieldLink RX4 28 "StreamRemuxer$PacketList" "packets" "I", Cond.fieldLink RX4 14 "StreamRemuxer$PacketList" "bytes" "LStreamRemuxer$Row;", Cond.fieldLink RX4 61 "StreamRemuxer$Row" "length" "I", Cond.methodLink RX1 188 yX1_takePackets, Cond.instanceMethod yX1_takePackets, Cond.selects RX1 yX1_takePackets yX1_takePackets, Cond.code yX1_takePackets cX1_takePackets 6 none, Cond.fieldLink RX1 192 "StreamRemuxer$PacketList" "bytes" "LStreamRemuxer$Row;", Cond.methodLink RX1 195 yX8_addPart, Cond.instanceMethod yX8_addPart]
def wsX1_read_r9 : List Cond := [Cond.selects RX8 yX8_addPart yX8_addPart, Cond.code yX8_addPart cX8_addPart 5 none, Cond.methodLink RX8 36 yX8_add, Cond.instanceMethod yX8_add, Cond.selects RX8 yX8_add yX8_add, Cond.code yX8_add cX8_add 2 none, Cond.fieldLink RX8 15 "StreamRemuxer$Row" "most" "I", Cond.fieldLink RX8 28 "StreamRemuxer$Row" "overfull" "Z", Cond.methodLink RX8 32 yX8_change, Cond.instanceMethod yX8_change, Cond.selects RX8 yX8_change yX8_change, Cond.code yX8_change cX8_change 4 (some .boolean), Cond.methodLink RX1 199 yX4_endPacket, Cond.instanceMethod yX4_endPacket, Cond.selects RX4 yX4_endPacket yX4_endPacket, Cond.code yX4_endPacket cX4_endPacket 3 none, Cond.fieldLink RX4 20 "StreamRemuxer$PacketList" "ends" "[I", Cond.fieldLink RX4 24 "StreamRemuxer$PacketList" "times" "[J"]
def wsX1_read : List Cond := .code yX1_read cX1_read 7 none :: ((wsX1_read_r1 ++ (wsX1_read_r2 ++ (wsX1_read_r3 ++ (wsX1_read_r4 ++ (wsX1_read_r5 ++ (wsX1_read_r6 ++ (wsX1_read_r7 ++ (wsX1_read_r8 ++ wsX1_read_r9)))))))) ++ wsX10 ++ wsX30 ++ wsX80 ++ wsX40)
def wsX8_init : List Cond := .code yX8_init cX8_init 2 none :: ([.methodLink RX8 3 objectInit, .instanceMethod objectInit, .code objectInit ⟨#[0xb1]⟩ 1 none, .methodLink RX8 9 Lib.Math.max.name, .static Lib.Math.max.name, .initialized "java/lang/Math", .code Lib.Math.max.name Lib.Math.max.code 2 (some .int), .fieldLink RX8 15 "StreamRemuxer$Row" "most" "I", .arrayClass .int, .fieldLink RX8 21 "StreamRemuxer$Row" "words" "[I"] ++ wsX80)
def wsX2_init : List Cond := .code yX2_init cX2_init 1 none :: ([.methodLink RX2 3 objectInit, .instanceMethod objectInit, .code objectInit ⟨#[0xb1]⟩ 1 none, .classLink RX2 9 RX8, .instantiable RX8 4, .initialized RX8, .fieldLink RX2 16 "StreamRemuxer$ElementWriter" "blockHeader" "LStreamRemuxer$Row;", .methodLink RX2 13 yX8_init, .instanceMethod yX8_init, .code yX8_init cX8_init 2 none, .methodLink RX8 3 objectInit, .methodLink RX8 9 Lib.Math.max.name, .static Lib.Math.max.name, .initialized "java/lang/Math", .code Lib.Math.max.name Lib.Math.max.code 2 (some .int), .fieldLink RX8 15 "StreamRemuxer$Row" "most" "I", .arrayClass .int, .fieldLink RX8 21 "StreamRemuxer$Row" "words" "[I"] ++ wsX80 ++ wsX20)
def wsX8_addEach : List Cond := .code yX8_addEach cX8_addEach 3 none :: ([.methodLink RX8 36 yX8_add, .instanceMethod yX8_add, .selects RX8 yX8_add yX8_add, .initialized RX8, .code yX8_add cX8_add 2 none, .fieldLink RX8 25 "StreamRemuxer$Row" "length" "I", .fieldLink RX8 15 "StreamRemuxer$Row" "most" "I", .fieldLink RX8 28 "StreamRemuxer$Row" "overfull" "Z", .methodLink RX8 32 yX8_change, .instanceMethod yX8_change, .selects RX8 yX8_change yX8_change, .code yX8_change cX8_change 4 (some .boolean), .fieldLink RX8 21 "StreamRemuxer$Row" "words" "[I"] ++ wsX80)
def wsX8_addHighFirst : List Cond := .code yX8_addHighFirst cX8_addHighFirst 5 none :: ([.methodLink RX8 36 yX8_add, .instanceMethod yX8_add, .selects RX8 yX8_add yX8_add, .initialized RX8, .code yX8_add cX8_add 2 none, .fieldLink RX8 25 "StreamRemuxer$Row" "length" "I", .fieldLink RX8 15 "StreamRemuxer$Row" "most" "I", .fieldLink RX8 28 "StreamRemuxer$Row" "overfull" "Z", .methodLink RX8 32 yX8_change, .instanceMethod yX8_change, .selects RX8 yX8_change yX8_change, .code yX8_change cX8_change 4 (some .boolean), .fieldLink RX8 21 "StreamRemuxer$Row" "words" "[I"] ++ wsX80)
def wsX2_beginLongElement : List Cond := .code yX2_beginLongElement cX2_beginLongElement 2 (some .int) :: ([.fieldLink RX2 24 "StreamRemuxer$ElementWriter" "target" "LStreamRemuxer$Row;", .fieldLink RX2 34 "StreamRemuxer$ElementWriter" "unknownSizes" "Z", .fieldLink RX2 104 "StreamRemuxer$Row" "length" "I", .methodLink RX2 100 yX8_addHighFirst, .instanceMethod yX8_addHighFirst, .selects RX8 yX8_addHighFirst yX8_addHighFirst, .initialized RX8, .code yX8_addHighFirst cX8_addHighFirst 5 none, .methodLink RX8 36 yX8_add, .instanceMethod yX8_add, .selects RX8 yX8_add yX8_add, .code yX8_add cX8_add 2 none, .fieldLink RX8 25 "StreamRemuxer$Row" "length" "I", .fieldLink RX8 15 "StreamRemuxer$Row" "most" "I", .fieldLink RX8 28 "StreamRemuxer$Row" "overfull" "Z", .methodLink RX8 32 yX8_change, .instanceMethod yX8_change, .selects RX8 yX8_change yX8_change, .code yX8_change cX8_change 4 (some .boolean), .fieldLink RX8 21 "StreamRemuxer$Row" "words" "[I", .methodLink RX2 59 yX8_add] ++ wsX20 ++ wsX80)
def wsX4_holds : List Cond := .code yX4_holds cX4_holds 2 (some .boolean) :: ([.fieldLink RX4 28 "StreamRemuxer$PacketList" "packets" "I"] ++ wsX40)
def wsX4_timeOf : List Cond := .code yX4_timeOf cX4_timeOf 2 (some .long) :: ([.fieldLink RX4 24 "StreamRemuxer$PacketList" "times" "[J", .constantLong RX4 49 (-1), .methodLink RX4 35 yX4_holds, .instanceMethod yX4_holds, .selects RX4 yX4_holds yX4_holds, .initialized RX4, .code yX4_holds cX4_holds 2 (some .boolean), .fieldLink RX4 28 "StreamRemuxer$PacketList" "packets" "I"] ++ wsX40)
def wsX4_timeToWrite : List Cond := .code yX4_timeToWrite cX4_timeToWrite 3 (some .long) :: ([.constantLong RX4 49 (-1), .methodLink RX4 51 yX4_timeOf, .instanceMethod yX4_timeOf, .selects RX4 yX4_timeOf yX4_timeOf, .initialized RX4, .code yX4_timeOf cX4_timeOf 2 (some .long), .fieldLink RX4 24 "StreamRemuxer$PacketList" "times" "[J", .methodLink RX4 35 yX4_holds, .instanceMethod yX4_holds, .selects RX4 yX4_holds yX4_holds, .code yX4_holds cX4_holds 2 (some .boolean), .fieldLink RX4 28 "StreamRemuxer$PacketList" "packets" "I"] ++ wsX40)
def wsX2_fitsBlock : List Cond := .code yX2_fitsBlock cX2_fitsBlock 2 (some .boolean) :: ([.constantLong RX2 96 (-32768), .constantLong RX2 98 (32767)])
def wsX2_endLongElement : List Cond := .code yX2_endLongElement cX2_endLongElement 4 none :: ([.fieldLink RX2 34 "StreamRemuxer$ElementWriter" "unknownSizes" "Z", .constant RX2 107 (268435456), .fieldLink RX2 24 "StreamRemuxer$ElementWriter" "target" "LStreamRemuxer$Row;", .fieldLink RX2 104 "StreamRemuxer$Row" "length" "I", .methodLink RX2 108 yX8_change, .instanceMethod yX8_change, .selects RX8 yX8_change yX8_change, .initialized RX8, .code yX8_change cX8_change 4 (some .boolean), .fieldLink RX8 25 "StreamRemuxer$Row" "length" "I", .fieldLink RX8 21 "StreamRemuxer$Row" "words" "[I"] ++ wsX20 ++ wsX80)
def wsX2_putSize : List Cond := .code yX2_putSize cX2_putSize 4 none :: ([.methodLink RX2 147 yX0_highestSize, .static yX0_highestSize, .initialized RX0, .code yX0_highestSize cX0_highestSize 1 (some .long), .constantLong RX0 7 (2), .methodLink RX2 100 yX8_addHighFirst, .instanceMethod yX8_addHighFirst, .selects RX8 yX8_addHighFirst yX8_addHighFirst, .initialized RX8, .code yX8_addHighFirst cX8_addHighFirst 5 none, .methodLink RX8 36 yX8_add, .instanceMethod yX8_add, .selects RX8 yX8_add yX8_add, .code yX8_add cX8_add 2 none, .fieldLink RX8 25 "StreamRemuxer$Row" "length" "I", .fieldLink RX8 15 "StreamRemuxer$Row" "most" "I", .fieldLink RX8 28 "StreamRemuxer$Row" "overfull" "Z", .methodLink RX8 32 yX8_change, .instanceMethod yX8_change, .selects RX8 yX8_change yX8_change, .code yX8_change cX8_change 4 (some .boolean), .fieldLink RX8 21 "StreamRemuxer$Row" "words" "[I"] ++ wsX80)
def wsX2_putClusterTime_r1 : List Cond := [Cond.fieldLink RX2 24 "StreamRemuxer$ElementWriter" "target" "LStreamRemuxer$Row;", Cond.methodLink RX2 59 yX8_add, Cond.instanceMethod yX8_add, Cond.selects RX8 yX8_add yX8_add, Cond.initialized RX8, Cond.code yX8_add cX8_add 2 none, Cond.fieldLink RX8 25 "StreamRemuxer$Row" "length" "I", Cond.fieldLink RX8 15 "StreamRemuxer$Row" "most" "I", Cond.fieldLink RX8 28 "StreamRemuxer$Row" "overfull" "Z", Cond.methodLink RX8 32 yX8_change, Cond.instanceMethod yX8_change, Cond.selects RX8 yX8_change yX8_change, Cond.code yX8_change cX8_change 4 (some .boolean), Cond.fieldLink RX8 21 "StreamRemuxer$Row" "words" "[I", Cond.methodLink RX2 112 yX2_putSize, Cond.static yX2_putSize, Cond.initialized RX2, Cond.code yX2_putSize cX2_putSize 4 none, Cond.methodLink RX2 147 yX0_highestSize, Cond.static yX0_highestSize, Cond.initialized RX0, Cond.code yX0_highestSize cX0_highestSize 1 (some .long), Cond.constantLong RX0 7 (2), Cond.methodLink RX2 100 yX8_addHighFirst]
def wsX2_putClusterTime_r2 : List Cond := [Cond.instanceMethod yX8_addHighFirst, Cond.selects RX8 yX8_addHighFirst yX8_addHighFirst, Cond.code yX8_addHighFirst cX8_addHighFirst 5 none, Cond.methodLink RX8 36 yX8_add]
def wsX2_putClusterTime : List Cond := .code yX2_putClusterTime cX2_putClusterTime 5 none :: ((wsX2_putClusterTime_r1 ++ wsX2_putClusterTime_r2) ++ wsX20 ++ wsX80)
def wsX4_beginOf : List Cond := .code yX4_beginOf cX4_beginOf 2 (some .int) :: ([.fieldLink RX4 20 "StreamRemuxer$PacketList" "ends" "[I", .methodLink RX4 35 yX4_holds, .instanceMethod yX4_holds, .selects RX4 yX4_holds yX4_holds, .initialized RX4, .code yX4_holds cX4_holds 2 (some .boolean), .fieldLink RX4 28 "StreamRemuxer$PacketList" "packets" "I"] ++ wsX40)
def wsX4_bytesOf : List Cond := .code yX4_bytesOf cX4_bytesOf 2 (some .int) :: ([.fieldLink RX4 20 "StreamRemuxer$PacketList" "ends" "[I", .methodLink RX4 35 yX4_holds, .instanceMethod yX4_holds, .selects RX4 yX4_holds yX4_holds, .initialized RX4, .code yX4_holds cX4_holds 2 (some .boolean), .fieldLink RX4 28 "StreamRemuxer$PacketList" "packets" "I", .methodLink RX4 39 yX4_beginOf, .instanceMethod yX4_beginOf, .selects RX4 yX4_beginOf yX4_beginOf, .code yX4_beginOf cX4_beginOf 2 (some .int)] ++ wsX40)
def wsX2_packetsOfBlock : List Cond := .code yX2_packetsOfBlock cX2_packetsOfBlock 4 (some .int) :: ([.fieldLink RX2 20 "StreamRemuxer$ElementWriter" "source" "LStreamRemuxer$PacketList;", .fieldLink RX2 71 "StreamRemuxer$PacketList" "packets" "I", .fieldLink RX2 31 "StreamRemuxer$ElementWriter" "mostPackets" "I", .fieldLink RX2 27 "StreamRemuxer$ElementWriter" "lace" "I", .methodLink RX2 116 yX4_bytesOf, .instanceMethod yX4_bytesOf, .selects RX4 yX4_bytesOf yX4_bytesOf, .initialized RX4, .code yX4_bytesOf cX4_bytesOf 2 (some .int), .fieldLink RX4 20 "StreamRemuxer$PacketList" "ends" "[I", .methodLink RX4 35 yX4_holds, .instanceMethod yX4_holds, .selects RX4 yX4_holds yX4_holds, .code yX4_holds cX4_holds 2 (some .boolean), .fieldLink RX4 28 "StreamRemuxer$PacketList" "packets" "I", .methodLink RX4 39 yX4_beginOf, .instanceMethod yX4_beginOf, .selects RX4 yX4_beginOf yX4_beginOf, .code yX4_beginOf cX4_beginOf 2 (some .int)] ++ wsX20 ++ wsX40)
def wsX8_empty : List Cond := .code yX8_empty cX8_empty 1 none :: ([.fieldLink RX8 25 "StreamRemuxer$Row" "length" "I", .fieldLink RX8 28 "StreamRemuxer$Row" "overfull" "Z"] ++ wsX80)
def wsX2_putSummedSize : List Cond := .code yX2_putSummedSize cX2_putSummedSize 4 none :: ([.fieldLink RX2 16 "StreamRemuxer$ElementWriter" "blockHeader" "LStreamRemuxer$Row;", .methodLink RX2 59 yX8_add, .instanceMethod yX8_add, .selects RX8 yX8_add yX8_add, .initialized RX8, .code yX8_add cX8_add 2 none, .fieldLink RX8 25 "StreamRemuxer$Row" "length" "I", .fieldLink RX8 15 "StreamRemuxer$Row" "most" "I", .fieldLink RX8 28 "StreamRemuxer$Row" "overfull" "Z", .methodLink RX8 32 yX8_change, .instanceMethod yX8_change, .selects RX8 yX8_change yX8_change, .code yX8_change cX8_change 4 (some .boolean), .fieldLink RX8 21 "StreamRemuxer$Row" "words" "[I"] ++ wsX20 ++ wsX80)
def wsX2_putDifference_r1 : List Cond := [Cond.methodLink RX2 138 Lib.MathLoose.abs_long.x, Cond.static Lib.MathLoose.abs_long.x, Cond.initialized "java/lang/Math", Cond.code Lib.MathLoose.abs_long.x Lib.MathLoose.abs_long.code 2 (some .long), Cond.fieldLink RX2 16 "StreamRemuxer$ElementWriter" "blockHeader" "LStreamRemuxer$Row;", Cond.methodLink RX2 144 yX0_differenceShift, Cond.static yX0_differenceShift, Cond.initialized RX0, Cond.code yX0_differenceShift cX0_differenceShift 1 (some .long), Cond.methodLink RX2 100 yX8_addHighFirst, Cond.instanceMethod yX8_addHighFirst, Cond.selects RX8 yX8_addHighFirst yX8_addHighFirst, Cond.initialized RX8, Cond.code yX8_addHighFirst cX8_addHighFirst 5 none, Cond.methodLink RX8 36 yX8_add, Cond.instanceMethod yX8_add, Cond.selects RX8 yX8_add yX8_add, Cond.code yX8_add cX8_add 2 none, Cond.fieldLink RX8 25 "StreamRemuxer$Row" "length" "I", Cond.fieldLink RX8 15 "StreamRemuxer$Row" "most" "I", Cond.fieldLink RX8 28 "StreamRemuxer$Row" "overfull" "Z", Cond.methodLink RX8 32 yX8_change, Cond.instanceMethod yX8_change, Cond.selects RX8 yX8_change yX8_change]
def wsX2_putDifference_r2 : List Cond := [Cond.code yX8_change cX8_change 4 (some .boolean), Cond.fieldLink RX8 21 "StreamRemuxer$Row" "words" "[I"]
def wsX2_putDifference : List Cond := .code yX2_putDifference cX2_putDifference 6 none :: ((wsX2_putDifference_r1 ++ wsX2_putDifference_r2) ++ wsX20 ++ wsX80)
def wsX2_putBlock_r1 : List Cond := [Cond.fieldLink RX2 27 "StreamRemuxer$ElementWriter" "lace" "I", Cond.fieldLink RX2 16 "StreamRemuxer$ElementWriter" "blockHeader" "LStreamRemuxer$Row;", Cond.fieldLink RX2 20 "StreamRemuxer$ElementWriter" "source" "LStreamRemuxer$PacketList;", Cond.fieldLink RX2 24 "StreamRemuxer$ElementWriter" "target" "LStreamRemuxer$Row;", Cond.fieldLink RX2 104 "StreamRemuxer$Row" "length" "I", Cond.fieldLink RX2 135 "StreamRemuxer$PacketList" "bytes" "LStreamRemuxer$Row;", Cond.methodLink RX2 119 yX8_empty, Cond.instanceMethod yX8_empty, Cond.selects RX8 yX8_empty yX8_empty, Cond.initialized RX8, Cond.code yX8_empty cX8_empty 1 none, Cond.fieldLink RX8 25 "StreamRemuxer$Row" "length" "I", Cond.fieldLink RX8 28 "StreamRemuxer$Row" "overfull" "Z", Cond.methodLink RX2 59 yX8_add, Cond.instanceMethod yX8_add, Cond.selects RX8 yX8_add yX8_add, Cond.code yX8_add cX8_add 2 none, Cond.fieldLink RX8 15 "StreamRemuxer$Row" "most" "I", Cond.methodLink RX8 32 yX8_change, Cond.instanceMethod yX8_change, Cond.selects RX8 yX8_change yX8_change, Cond.code yX8_change cX8_change 4 (some .boolean), Cond.fieldLink RX8 21 "StreamRemuxer$Row" "words" "[I", Cond.methodLink RX2 100 yX8_addHighFirst]
def wsX2_putBlock_r2 : List Cond := [Cond.instanceMethod yX8_addHighFirst, Cond.selects RX8 yX8_addHighFirst yX8_addHighFirst, Cond.code yX8_addHighFirst cX8_addHighFirst 5 none, Cond.methodLink RX8 36 yX8_add, Cond.methodLink RX2 116 yX4_bytesOf, Cond.instanceMethod yX4_bytesOf, Cond.selects RX4 yX4_bytesOf yX4_bytesOf, Cond.initialized RX4, Cond.code yX4_bytesOf cX4_bytesOf 2 (some .int), Cond.fieldLink RX4 20 "StreamRemuxer$PacketList" "ends" "[I", Cond.methodLink RX4 35 yX4_holds, Cond.instanceMethod yX4_holds, Cond.selects RX4 yX4_holds yX4_holds, Cond.code yX4_holds cX4_holds 2 (some .boolean), Cond.fieldLink RX4 28 "StreamRemuxer$PacketList" "packets" "I", Cond.methodLink RX4 39 yX4_beginOf, Cond.instanceMethod yX4_beginOf, Cond.selects RX4 yX4_beginOf yX4_beginOf, Cond.code yX4_beginOf cX4_beginOf 2 (some .int), Cond.methodLink RX2 122 yX2_putSummedSize, Cond.instanceMethod yX2_putSummedSize, Cond.selects RX2 yX2_putSummedSize yX2_putSummedSize, Cond.initialized RX2, Cond.code yX2_putSummedSize cX2_putSummedSize 4 none]
def wsX2_putBlock_r3 : List Cond := [Cond.methodLink RX2 112 yX2_putSize, Cond.static yX2_putSize, Cond.code yX2_putSize cX2_putSize 4 none, Cond.methodLink RX2 147 yX0_highestSize, Cond.static yX0_highestSize, Cond.initialized RX0, Cond.code yX0_highestSize cX0_highestSize 1 (some .long), Cond.constantLong RX0 7 (2), Cond.methodLink RX2 125 yX2_putDifference, Cond.instanceMethod yX2_putDifference, Cond.selects RX2 yX2_putDifference yX2_putDifference, Cond.code yX2_putDifference cX2_putDifference 6 none, Cond.methodLink RX2 138 Lib.MathLoose.abs_long.x, Cond.static Lib.MathLoose.abs_long.x, Cond.initialized "java/lang/Math", Cond.code Lib.MathLoose.abs_long.x Lib.MathLoose.abs_long.code 2 (some .long), Cond.methodLink RX2 144 yX0_differenceShift, Cond.static yX0_differenceShift, Cond.code yX0_differenceShift cX0_differenceShift 1 (some .long), Cond.methodLink RX2 128 yX4_beginOf, Cond.methodLink RX2 131 yX8_addPart, Cond.instanceMethod yX8_addPart, Cond.selects RX8 yX8_addPart yX8_addPart, Cond.code yX8_addPart cX8_addPart 5 none]
def wsX2_putBlock_r4 : List Cond := [Cond.methodLink RX8 40 yX8_at, Cond.instanceMethod yX8_at, Cond.selects RX8 yX8_at yX8_at, Cond.code yX8_at cX8_at 2 (some .int)]
def wsX2_putBlock : List Cond := .code yX2_putBlock cX2_putBlock 8 none :: ((wsX2_putBlock_r1 ++ (wsX2_putBlock_r2 ++ (wsX2_putBlock_r3 ++ wsX2_putBlock_r4))) ++ wsX20 ++ wsX80 ++ wsX40)
def wsX2_putClusters_r1 : List Cond := [Cond.fieldLink RX2 20 "StreamRemuxer$ElementWriter" "source" "LStreamRemuxer$PacketList;", Cond.fieldLink RX2 71 "StreamRemuxer$PacketList" "packets" "I", Cond.constant RX2 84 (524531317), Cond.methodLink RX2 76 yX4_timeToWrite, Cond.instanceMethod yX4_timeToWrite, Cond.selects RX4 yX4_timeToWrite yX4_timeToWrite, Cond.initialized RX4, Cond.code yX4_timeToWrite cX4_timeToWrite 3 (some .long), Cond.constantLong RX4 49 (-1), Cond.methodLink RX4 51 yX4_timeOf, Cond.instanceMethod yX4_timeOf, Cond.selects RX4 yX4_timeOf yX4_timeOf, Cond.code yX4_timeOf cX4_timeOf 2 (some .long), Cond.fieldLink RX4 24 "StreamRemuxer$PacketList" "times" "[J", Cond.methodLink RX4 35 yX4_holds, Cond.instanceMethod yX4_holds, Cond.selects RX4 yX4_holds yX4_holds, Cond.code yX4_holds cX4_holds 2 (some .boolean), Cond.fieldLink RX4 28 "StreamRemuxer$PacketList" "packets" "I", Cond.methodLink RX2 80 yX2_fitsBlock, Cond.static yX2_fitsBlock, Cond.initialized RX2, Cond.code yX2_fitsBlock cX2_fitsBlock 2 (some .boolean), Cond.constantLong RX2 96 (-32768)]
def wsX2_putClusters_r2 : List Cond := [Cond.constantLong RX2 98 (32767), Cond.methodLink RX2 68 yX2_endLongElement, Cond.instanceMethod yX2_endLongElement, Cond.selects RX2 yX2_endLongElement yX2_endLongElement, Cond.code yX2_endLongElement cX2_endLongElement 4 none, Cond.fieldLink RX2 34 "StreamRemuxer$ElementWriter" "unknownSizes" "Z", Cond.constant RX2 107 (268435456), Cond.fieldLink RX2 24 "StreamRemuxer$ElementWriter" "target" "LStreamRemuxer$Row;", Cond.fieldLink RX2 104 "StreamRemuxer$Row" "length" "I", Cond.methodLink RX2 108 yX8_change, Cond.instanceMethod yX8_change, Cond.selects RX8 yX8_change yX8_change, Cond.initialized RX8, Cond.code yX8_change cX8_change 4 (some .boolean), Cond.fieldLink RX8 25 "StreamRemuxer$Row" "length" "I", Cond.fieldLink RX8 21 "StreamRemuxer$Row" "words" "[I", Cond.methodLink RX2 49 yX2_beginLongElement, Cond.instanceMethod yX2_beginLongElement, Cond.selects RX2 yX2_beginLongElement yX2_beginLongElement, Cond.code yX2_beginLongElement cX2_beginLongElement 2 (some .int), Cond.methodLink RX2 100 yX8_addHighFirst, Cond.instanceMethod yX8_addHighFirst, Cond.selects RX8 yX8_addHighFirst yX8_addHighFirst, Cond.code yX8_addHighFirst cX8_addHighFirst 5 none]
def wsX2_putClusters_r3 : List Cond := [Cond.methodLink RX8 36 yX8_add, Cond.instanceMethod yX8_add, Cond.selects RX8 yX8_add yX8_add, Cond.code yX8_add cX8_add 2 none, Cond.fieldLink RX8 15 "StreamRemuxer$Row" "most" "I", Cond.fieldLink RX8 28 "StreamRemuxer$Row" "overfull" "Z", Cond.methodLink RX8 32 yX8_change, Cond.methodLink RX2 59 yX8_add, Cond.methodLink RX2 85 yX2_putClusterTime, Cond.instanceMethod yX2_putClusterTime, Cond.selects RX2 yX2_putClusterTime yX2_putClusterTime, Cond.code yX2_putClusterTime cX2_putClusterTime 5 none, Cond.methodLink RX2 112 yX2_putSize, Cond.static yX2_putSize, Cond.code yX2_putSize cX2_putSize 4 none, Cond.methodLink RX2 147 yX0_highestSize, Cond.static yX0_highestSize, Cond.initialized RX0, Cond.code yX0_highestSize cX0_highestSize 1 (some .long), Cond.constantLong RX0 7 (2), Cond.methodLink RX2 89 yX2_packetsOfBlock, Cond.instanceMethod yX2_packetsOfBlock, Cond.selects RX2 yX2_packetsOfBlock yX2_packetsOfBlock, Cond.code yX2_packetsOfBlock cX2_packetsOfBlock 4 (some .int)]
def wsX2_putClusters_r4 : List Cond := [Cond.fieldLink RX2 31 "StreamRemuxer$ElementWriter" "mostPackets" "I", Cond.fieldLink RX2 27 "StreamRemuxer$ElementWriter" "lace" "I", Cond.methodLink RX2 116 yX4_bytesOf, Cond.instanceMethod yX4_bytesOf, Cond.selects RX4 yX4_bytesOf yX4_bytesOf, Cond.code yX4_bytesOf cX4_bytesOf 2 (some .int), Cond.fieldLink RX4 20 "StreamRemuxer$PacketList" "ends" "[I", Cond.methodLink RX4 39 yX4_beginOf, Cond.instanceMethod yX4_beginOf, Cond.selects RX4 yX4_beginOf yX4_beginOf, Cond.code yX4_beginOf cX4_beginOf 2 (some .int), Cond.methodLink RX2 92 yX2_putBlock, Cond.instanceMethod yX2_putBlock, Cond.selects RX2 yX2_putBlock yX2_putBlock, Cond.code yX2_putBlock cX2_putBlock 8 none, Cond.fieldLink RX2 16 "StreamRemuxer$ElementWriter" "blockHeader" "LStreamRemuxer$Row;", Cond.fieldLink RX2 135 "StreamRemuxer$PacketList" "bytes" "LStreamRemuxer$Row;", Cond.methodLink RX2 119 yX8_empty, Cond.instanceMethod yX8_empty, Cond.selects RX8 yX8_empty yX8_empty, Cond.code yX8_empty cX8_empty 1 none, Cond.methodLink RX2 122 yX2_putSummedSize, Cond.instanceMethod yX2_putSummedSize, Cond.selects RX2 yX2_putSummedSize yX2_putSummedSize]
def wsX2_putClusters_r5 : List Cond := [Cond.code yX2_putSummedSize cX2_putSummedSize 4 none, Cond.methodLink RX2 125 yX2_putDifference, Cond.instanceMethod yX2_putDifference, Cond.selects RX2 yX2_putDifference yX2_putDifference, Cond.code yX2_putDifference cX2_putDifference 6 none, Cond.methodLink RX2 138 Lib.MathLoose.abs_long.x, Cond.static Lib.MathLoose.abs_long.x, Cond.initialized "java/lang/Math", Cond.code Lib.MathLoose.abs_long.x Lib.MathLoose.abs_long.code 2 (some .long), Cond.methodLink RX2 144 yX0_differenceShift, Cond.static yX0_differenceShift, Cond.code yX0_differenceShift cX0_differenceShift 1 (some .long), Cond.methodLink RX2 128 yX4_beginOf, Cond.methodLink RX2 131 yX8_addPart, Cond.instanceMethod yX8_addPart, Cond.selects RX8 yX8_addPart yX8_addPart, Cond.code yX8_addPart cX8_addPart 5 none, Cond.methodLink RX8 40 yX8_at, Cond.instanceMethod yX8_at, Cond.selects RX8 yX8_at yX8_at, Cond.code yX8_at cX8_at 2 (some .int)]
def wsX2_putClusters : List Cond := .code yX2_putClusters cX2_putClusters 11 none :: ((wsX2_putClusters_r1 ++ (wsX2_putClusters_r2 ++ (wsX2_putClusters_r3 ++ (wsX2_putClusters_r4 ++ wsX2_putClusters_r5)))) ++ wsX20 ++ wsX40 ++ wsX80)
def wsX2_write_r1 : List Cond := [Cond.fieldLink RX2 20 "StreamRemuxer$ElementWriter" "source" "LStreamRemuxer$PacketList;", Cond.fieldLink RX2 24 "StreamRemuxer$ElementWriter" "target" "LStreamRemuxer$Row;", Cond.fieldLink RX2 27 "StreamRemuxer$ElementWriter" "lace" "I", Cond.fieldLink RX2 31 "StreamRemuxer$ElementWriter" "mostPackets" "I", Cond.fieldLink RX2 34 "StreamRemuxer$ElementWriter" "unknownSizes" "Z", Cond.fieldLink RX2 38 "StreamRemuxer$ElementWriter" "HEAD_BYTES" "[I", Cond.constant RX2 48 (408125543), Cond.fieldLink RX2 53 "StreamRemuxer$ElementWriter" "INFO_BYTES" "[I", Cond.fieldLink RX2 56 "StreamRemuxer$ElementWriter" "TRACKS_BYTES_TO_LACING" "[I", Cond.fieldLink RX2 62 "StreamRemuxer$ElementWriter" "TRACKS_BYTES_BEHIND" "[I", Cond.methodLink RX2 42 yX8_addEach, Cond.instanceMethod yX8_addEach, Cond.selects RX8 yX8_addEach yX8_addEach, Cond.initialized RX8, Cond.code yX8_addEach cX8_addEach 3 none, Cond.methodLink RX8 36 yX8_add, Cond.instanceMethod yX8_add, Cond.selects RX8 yX8_add yX8_add, Cond.code yX8_add cX8_add 2 none, Cond.fieldLink RX8 25 "StreamRemuxer$Row" "length" "I", Cond.fieldLink RX8 15 "StreamRemuxer$Row" "most" "I", Cond.fieldLink RX8 28 "StreamRemuxer$Row" "overfull" "Z", Cond.methodLink RX8 32 yX8_change, Cond.instanceMethod yX8_change]
def wsX2_write_r2 : List Cond := [Cond.selects RX8 yX8_change yX8_change, Cond.code yX8_change cX8_change 4 (some .boolean), Cond.fieldLink RX8 21 "StreamRemuxer$Row" "words" "[I", Cond.methodLink RX2 49 yX2_beginLongElement, Cond.instanceMethod yX2_beginLongElement, Cond.selects RX2 yX2_beginLongElement yX2_beginLongElement, Cond.initialized RX2, Cond.code yX2_beginLongElement cX2_beginLongElement 2 (some .int), Cond.fieldLink RX2 104 "StreamRemuxer$Row" "length" "I", Cond.methodLink RX2 100 yX8_addHighFirst, Cond.instanceMethod yX8_addHighFirst, Cond.selects RX8 yX8_addHighFirst yX8_addHighFirst, Cond.code yX8_addHighFirst cX8_addHighFirst 5 none, Cond.methodLink RX2 59 yX8_add, Cond.methodLink RX2 65 yX2_putClusters, Cond.instanceMethod yX2_putClusters, Cond.selects RX2 yX2_putClusters yX2_putClusters, Cond.code yX2_putClusters cX2_putClusters 11 none, Cond.fieldLink RX2 71 "StreamRemuxer$PacketList" "packets" "I", Cond.constant RX2 84 (524531317), Cond.methodLink RX2 76 yX4_timeToWrite, Cond.instanceMethod yX4_timeToWrite, Cond.selects RX4 yX4_timeToWrite yX4_timeToWrite, Cond.initialized RX4]
def wsX2_write_r3 : List Cond := [Cond.code yX4_timeToWrite cX4_timeToWrite 3 (some .long), Cond.constantLong RX4 49 (-1), Cond.methodLink RX4 51 yX4_timeOf, Cond.instanceMethod yX4_timeOf, Cond.selects RX4 yX4_timeOf yX4_timeOf, Cond.code yX4_timeOf cX4_timeOf 2 (some .long), Cond.fieldLink RX4 24 "StreamRemuxer$PacketList" "times" "[J", Cond.methodLink RX4 35 yX4_holds, Cond.instanceMethod yX4_holds, Cond.selects RX4 yX4_holds yX4_holds, Cond.code yX4_holds cX4_holds 2 (some .boolean), Cond.fieldLink RX4 28 "StreamRemuxer$PacketList" "packets" "I", Cond.methodLink RX2 80 yX2_fitsBlock, Cond.static yX2_fitsBlock, Cond.code yX2_fitsBlock cX2_fitsBlock 2 (some .boolean), Cond.constantLong RX2 96 (-32768), Cond.constantLong RX2 98 (32767), Cond.methodLink RX2 68 yX2_endLongElement, Cond.instanceMethod yX2_endLongElement, Cond.selects RX2 yX2_endLongElement yX2_endLongElement, Cond.code yX2_endLongElement cX2_endLongElement 4 none, Cond.constant RX2 107 (268435456), Cond.methodLink RX2 108 yX8_change, Cond.methodLink RX2 85 yX2_putClusterTime]
def wsX2_write_r4 : List Cond := [Cond.instanceMethod yX2_putClusterTime, Cond.selects RX2 yX2_putClusterTime yX2_putClusterTime, Cond.code yX2_putClusterTime cX2_putClusterTime 5 none, Cond.methodLink RX2 112 yX2_putSize, Cond.static yX2_putSize, Cond.code yX2_putSize cX2_putSize 4 none, Cond.methodLink RX2 147 yX0_highestSize, Cond.static yX0_highestSize, Cond.initialized RX0, Cond.code yX0_highestSize cX0_highestSize 1 (some .long), Cond.constantLong RX0 7 (2), Cond.methodLink RX2 89 yX2_packetsOfBlock, Cond.instanceMethod yX2_packetsOfBlock, Cond.selects RX2 yX2_packetsOfBlock yX2_packetsOfBlock, Cond.code yX2_packetsOfBlock cX2_packetsOfBlock 4 (some .int), Cond.methodLink RX2 116 yX4_bytesOf, Cond.instanceMethod yX4_bytesOf, Cond.selects RX4 yX4_bytesOf yX4_bytesOf, Cond.code yX4_bytesOf cX4_bytesOf 2 (some .int), Cond.fieldLink RX4 20 "StreamRemuxer$PacketList" "ends" "[I", Cond.methodLink RX4 39 yX4_beginOf, Cond.instanceMethod yX4_beginOf, Cond.selects RX4 yX4_beginOf yX4_beginOf, Cond.code yX4_beginOf cX4_beginOf 2 (some .int)]
def wsX2_write_r5 : List Cond := [Cond.methodLink RX2 92 yX2_putBlock, Cond.instanceMethod yX2_putBlock, Cond.selects RX2 yX2_putBlock yX2_putBlock, Cond.code yX2_putBlock cX2_putBlock 8 none, Cond.fieldLink RX2 16 "StreamRemuxer$ElementWriter" "blockHeader" "LStreamRemuxer$Row;", Cond.fieldLink RX2 135 "StreamRemuxer$PacketList" "bytes" "LStreamRemuxer$Row;", Cond.methodLink RX2 119 yX8_empty, Cond.instanceMethod yX8_empty, Cond.selects RX8 yX8_empty yX8_empty, Cond.code yX8_empty cX8_empty 1 none, Cond.methodLink RX2 122 yX2_putSummedSize, Cond.instanceMethod yX2_putSummedSize, Cond.selects RX2 yX2_putSummedSize yX2_putSummedSize, Cond.code yX2_putSummedSize cX2_putSummedSize 4 none, Cond.methodLink RX2 125 yX2_putDifference, Cond.instanceMethod yX2_putDifference, Cond.selects RX2 yX2_putDifference yX2_putDifference, Cond.code yX2_putDifference cX2_putDifference 6 none, Cond.methodLink RX2 138 Lib.MathLoose.abs_long.x, Cond.static Lib.MathLoose.abs_long.x, Cond.initialized "java/lang/Math", Cond.code Lib.MathLoose.abs_long.x Lib.MathLoose.abs_long.code 2 (some .long), Cond.methodLink RX2 144 yX0_differenceShift, Cond.static yX0_differenceShift]
def wsX2_write_r6 : List Cond := [Cond.code yX0_differenceShift cX0_differenceShift 1 (some .long), Cond.methodLink RX2 128 yX4_beginOf, Cond.methodLink RX2 131 yX8_addPart, Cond.instanceMethod yX8_addPart, Cond.selects RX8 yX8_addPart yX8_addPart, Cond.code yX8_addPart cX8_addPart 5 none, Cond.methodLink RX8 40 yX8_at, Cond.instanceMethod yX8_at, Cond.selects RX8 yX8_at yX8_at, Cond.code yX8_at cX8_at 2 (some .int)]
def wsX2_write : List Cond := .code yX2_write cX2_write 8 none :: ((wsX2_write_r1 ++ (wsX2_write_r2 ++ (wsX2_write_r3 ++ (wsX2_write_r4 ++ (wsX2_write_r5 ++ wsX2_write_r6))))) ++ wsX20 ++ wsX80 ++ wsX40)
def wsX4_init : List Cond := .code yX4_init cX4_init 1 none :: ([.methodLink RX4 3 objectInit, .instanceMethod objectInit, .code objectInit ⟨#[0xb1]⟩ 1 none, .classLink RX4 9 RX8, .instantiable RX8 4, .initialized RX8, .fieldLink RX4 14 "StreamRemuxer$PacketList" "bytes" "LStreamRemuxer$Row;", .arrayClass .int, .fieldLink RX4 20 "StreamRemuxer$PacketList" "ends" "[I", .arrayClass .long, .fieldLink RX4 24 "StreamRemuxer$PacketList" "times" "[J", .methodLink RX4 11 yX8_init, .instanceMethod yX8_init, .code yX8_init cX8_init 2 none, .methodLink RX8 3 objectInit, .methodLink RX8 9 Lib.Math.max.name, .static Lib.Math.max.name, .initialized "java/lang/Math", .code Lib.Math.max.name Lib.Math.max.code 2 (some .int), .fieldLink RX8 15 "StreamRemuxer$Row" "most" "I", .fieldLink RX8 21 "StreamRemuxer$Row" "words" "[I"] ++ wsX80 ++ wsX40)
def wsX4_empty : List Cond := .code yX4_empty cX4_empty 1 none :: ([.fieldLink RX4 28 "StreamRemuxer$PacketList" "packets" "I", .fieldLink RX4 14 "StreamRemuxer$PacketList" "bytes" "LStreamRemuxer$Row;", .methodLink RX4 32 yX8_empty, .instanceMethod yX8_empty, .selects RX8 yX8_empty yX8_empty, .initialized RX8, .code yX8_empty cX8_empty 1 none, .fieldLink RX8 25 "StreamRemuxer$Row" "length" "I", .fieldLink RX8 28 "StreamRemuxer$Row" "overfull" "Z"] ++ wsX40 ++ wsX80)
def wsX4_byteOf : List Cond := .code yX4_byteOf cX4_byteOf 3 (some .int) :: ([.fieldLink RX4 14 "StreamRemuxer$PacketList" "bytes" "LStreamRemuxer$Row;", .methodLink RX4 43 yX4_bytesOf, .instanceMethod yX4_bytesOf, .selects RX4 yX4_bytesOf yX4_bytesOf, .initialized RX4, .code yX4_bytesOf cX4_bytesOf 2 (some .int), .fieldLink RX4 20 "StreamRemuxer$PacketList" "ends" "[I", .methodLink RX4 35 yX4_holds, .instanceMethod yX4_holds, .selects RX4 yX4_holds yX4_holds, .code yX4_holds cX4_holds 2 (some .boolean), .fieldLink RX4 28 "StreamRemuxer$PacketList" "packets" "I", .methodLink RX4 39 yX4_beginOf, .instanceMethod yX4_beginOf, .selects RX4 yX4_beginOf yX4_beginOf, .code yX4_beginOf cX4_beginOf 2 (some .int), .methodLink RX4 46 yX8_at, .instanceMethod yX8_at, .selects RX8 yX8_at yX8_at, .initialized RX8, .code yX8_at cX8_at 2 (some .int), .fieldLink RX8 25 "StreamRemuxer$Row" "length" "I", .fieldLink RX8 21 "StreamRemuxer$Row" "words" "[I"] ++ wsX40 ++ wsX80)
def wsX4_isInOrderOfTime : List Cond := .code yX4_isInOrderOfTime cX4_isInOrderOfTime 4 (some .boolean) :: ([.constantLong RX4 49 (-1), .fieldLink RX4 28 "StreamRemuxer$PacketList" "packets" "I", .methodLink RX4 55 Lib.MathLoose.max_long.x, .static Lib.MathLoose.max_long.x, .initialized "java/lang/Math", .code Lib.MathLoose.max_long.x Lib.MathLoose.max_long.code 4 (some .long), .methodLink RX4 51 yX4_timeOf, .instanceMethod yX4_timeOf, .selects RX4 yX4_timeOf yX4_timeOf, .initialized RX4, .code yX4_timeOf cX4_timeOf 2 (some .long), .fieldLink RX4 24 "StreamRemuxer$PacketList" "times" "[J", .methodLink RX4 35 yX4_holds, .instanceMethod yX4_holds, .selects RX4 yX4_holds yX4_holds, .code yX4_holds cX4_holds 2 (some .boolean)] ++ wsX40)
def wsX5_isMarked : List Cond := .code yX5_isMarked cX5_isMarked 2 (some .boolean) :: ([.constant RX5 17 (1332176723), .methodLink RX5 9 yX8_highFirst, .instanceMethod yX8_highFirst, .selects RX8 yX8_highFirst yX8_highFirst, .initialized RX8, .code yX8_highFirst cX8_highFirst 6 (some .long), .methodLink RX8 40 yX8_at, .instanceMethod yX8_at, .selects RX8 yX8_at yX8_at, .code yX8_at cX8_at 2 (some .int), .fieldLink RX8 25 "StreamRemuxer$Row" "length" "I", .fieldLink RX8 21 "StreamRemuxer$Row" "words" "[I"] ++ wsX80)
def wsX5_endOf : List Cond := .code yX5_endOf cX5_endOf 6 (some .int) :: ([.methodLink RX5 18 yX8_at, .instanceMethod yX8_at, .selects RX8 yX8_at yX8_at, .initialized RX8, .code yX8_at cX8_at 2 (some .int), .fieldLink RX8 25 "StreamRemuxer$Row" "length" "I", .fieldLink RX8 21 "StreamRemuxer$Row" "words" "[I"] ++ wsX80)
def wsX5_sumOf : List Cond := .code yX5_sumOf cX5_sumOf 7 (some .int) :: ([.fieldLink RX5 22 "StreamRemuxer$PageForm" "FOUR_SHIFTS" "[I", .methodLink RX5 18 yX8_at, .instanceMethod yX8_at, .selects RX8 yX8_at yX8_at, .initialized RX8, .code yX8_at cX8_at 2 (some .int), .fieldLink RX8 25 "StreamRemuxer$Row" "length" "I", .fieldLink RX8 21 "StreamRemuxer$Row" "words" "[I"] ++ wsX80)
def wsX5_makeSumRight : List Cond := .code yX5_makeSumRight cX5_makeSumRight 5 none :: ([.methodLink RX5 26 yX5_sumOf, .static yX5_sumOf, .initialized RX5, .code yX5_sumOf cX5_sumOf 7 (some .int), .fieldLink RX5 22 "StreamRemuxer$PageForm" "FOUR_SHIFTS" "[I", .methodLink RX5 18 yX8_at, .instanceMethod yX8_at, .selects RX8 yX8_at yX8_at, .initialized RX8, .code yX8_at cX8_at 2 (some .int), .fieldLink RX8 25 "StreamRemuxer$Row" "length" "I", .fieldLink RX8 21 "StreamRemuxer$Row" "words" "[I", .methodLink RX5 30 yX8_change, .instanceMethod yX8_change, .selects RX8 yX8_change yX8_change, .code yX8_change cX8_change 4 (some .boolean)] ++ wsX80)
def wsX6_init : List Cond := .code yX6_init cX6_init 1 none :: ([.methodLink RX6 3 objectInit, .instanceMethod objectInit, .code objectInit ⟨#[0xb1]⟩ 1 none])
def wsX8_lowFirst : List Cond := .code yX8_lowFirst cX8_lowFirst 6 (some .long) :: ([.methodLink RX8 40 yX8_at, .instanceMethod yX8_at, .selects RX8 yX8_at yX8_at, .initialized RX8, .code yX8_at cX8_at 2 (some .int), .fieldLink RX8 25 "StreamRemuxer$Row" "length" "I", .fieldLink RX8 21 "StreamRemuxer$Row" "words" "[I"] ++ wsX80)
def wsX6_numberAt : List Cond := .code yX6_numberAt cX6_numberAt 2 (some .int) :: ([.fieldLink RX6 9 "StreamRemuxer$PageReader" "file" "LStreamRemuxer$Row;", .methodLink RX6 82 yX8_lowFirst, .instanceMethod yX8_lowFirst, .selects RX8 yX8_lowFirst yX8_lowFirst, .initialized RX8, .code yX8_lowFirst cX8_lowFirst 6 (some .long), .methodLink RX8 40 yX8_at, .instanceMethod yX8_at, .selects RX8 yX8_at yX8_at, .code yX8_at cX8_at 2 (some .int), .fieldLink RX8 25 "StreamRemuxer$Row" "length" "I", .fieldLink RX8 21 "StreamRemuxer$Row" "words" "[I"] ++ wsX60 ++ wsX80)
def wsX6_isOutOfOrder : List Cond := .code yX6_isOutOfOrder cX6_isOutOfOrder 4 (some .boolean) :: ([.fieldLink RX6 30 "StreamRemuxer$PageReader" "lastWasRead" "Z", .fieldLink RX6 23 "StreamRemuxer$PageReader" "pageCount" "I", .fieldLink RX6 95 "StreamRemuxer$PageReader" "serial" "I", .methodLink RX6 72 yX6_numberAt, .instanceMethod yX6_numberAt, .selects RX6 yX6_numberAt yX6_numberAt, .initialized RX6, .code yX6_numberAt cX6_numberAt 2 (some .int), .fieldLink RX6 9 "StreamRemuxer$PageReader" "file" "LStreamRemuxer$Row;", .methodLink RX6 82 yX8_lowFirst, .instanceMethod yX8_lowFirst, .selects RX8 yX8_lowFirst yX8_lowFirst, .initialized RX8, .code yX8_lowFirst cX8_lowFirst 6 (some .long), .methodLink RX8 40 yX8_at, .instanceMethod yX8_at, .selects RX8 yX8_at yX8_at, .code yX8_at cX8_at 2 (some .int), .fieldLink RX8 25 "StreamRemuxer$Row" "length" "I", .fieldLink RX8 21 "StreamRemuxer$Row" "words" "[I"] ++ wsX60 ++ wsX80)
def wsX6_packetsEnding : List Cond := .code yX6_packetsEnding cX6_packetsEnding 5 (some .int) :: ([.fieldLink RX6 9 "StreamRemuxer$PageReader" "file" "LStreamRemuxer$Row;", .methodLink RX6 60 yX8_at, .instanceMethod yX8_at, .selects RX8 yX8_at yX8_at, .initialized RX8, .code yX8_at cX8_at 2 (some .int), .fieldLink RX8 25 "StreamRemuxer$Row" "length" "I", .fieldLink RX8 21 "StreamRemuxer$Row" "words" "[I"] ++ wsX60 ++ wsX80)
def wsX6_isTimeWrong : List Cond := .code yX6_isTimeWrong cX6_isTimeWrong 4 (some .boolean) :: ([.constantLong RX6 98 (-1), .fieldLink RX6 33 "StreamRemuxer$PageReader" "latestTime" "J", .constantLong RX6 100 (1099511627775)] ++ wsX60)
def wsX6_faultOf_r1 : List Cond := [Cond.fieldLink RX6 15 "StreamRemuxer$PageReader" "limit" "I", Cond.fieldLink RX6 9 "StreamRemuxer$PageReader" "file" "LStreamRemuxer$Row;", Cond.fieldLink RX6 26 "StreamRemuxer$PageReader" "packetIsOpen" "Z", Cond.fieldLink RX6 19 "StreamRemuxer$PageReader" "target" "LStreamRemuxer$PacketList;", Cond.methodLink RX6 56 yX5_isMarked, Cond.static yX5_isMarked, Cond.initialized RX5, Cond.code yX5_isMarked cX5_isMarked 2 (some .boolean), Cond.constant RX5 17 (1332176723), Cond.methodLink RX5 9 yX8_highFirst, Cond.instanceMethod yX8_highFirst, Cond.selects RX8 yX8_highFirst yX8_highFirst, Cond.initialized RX8, Cond.code yX8_highFirst cX8_highFirst 6 (some .long), Cond.methodLink RX8 40 yX8_at, Cond.instanceMethod yX8_at, Cond.selects RX8 yX8_at yX8_at, Cond.code yX8_at cX8_at 2 (some .int), Cond.fieldLink RX8 25 "StreamRemuxer$Row" "length" "I", Cond.fieldLink RX8 21 "StreamRemuxer$Row" "words" "[I", Cond.methodLink RX6 60 yX8_at, Cond.methodLink RX6 65 yX5_endOf, Cond.static yX5_endOf, Cond.code yX5_endOf cX5_endOf 6 (some .int)]
def wsX6_faultOf_r2 : List Cond := [Cond.methodLink RX5 18 yX8_at, Cond.methodLink RX6 69 yX5_sumOf, Cond.static yX5_sumOf, Cond.code yX5_sumOf cX5_sumOf 7 (some .int), Cond.fieldLink RX5 22 "StreamRemuxer$PageForm" "FOUR_SHIFTS" "[I", Cond.methodLink RX6 72 yX6_numberAt, Cond.instanceMethod yX6_numberAt, Cond.selects RX6 yX6_numberAt yX6_numberAt, Cond.initialized RX6, Cond.code yX6_numberAt cX6_numberAt 2 (some .int), Cond.methodLink RX6 82 yX8_lowFirst, Cond.instanceMethod yX8_lowFirst, Cond.selects RX8 yX8_lowFirst yX8_lowFirst, Cond.code yX8_lowFirst cX8_lowFirst 6 (some .long), Cond.methodLink RX6 75 yX6_isOutOfOrder, Cond.instanceMethod yX6_isOutOfOrder, Cond.selects RX6 yX6_isOutOfOrder yX6_isOutOfOrder, Cond.code yX6_isOutOfOrder cX6_isOutOfOrder 4 (some .boolean), Cond.fieldLink RX6 30 "StreamRemuxer$PageReader" "lastWasRead" "Z", Cond.fieldLink RX6 23 "StreamRemuxer$PageReader" "pageCount" "I", Cond.fieldLink RX6 95 "StreamRemuxer$PageReader" "serial" "I", Cond.methodLink RX6 79 yX6_packetsEnding, Cond.instanceMethod yX6_packetsEnding, Cond.selects RX6 yX6_packetsEnding yX6_packetsEnding]
def wsX6_faultOf_r3 : List Cond := [Cond.code yX6_packetsEnding cX6_packetsEnding 5 (some .int), Cond.methodLink RX6 86 yX6_isTimeWrong, Cond.instanceMethod yX6_isTimeWrong, Cond.selects RX6 yX6_isTimeWrong yX6_isTimeWrong, Cond.code yX6_isTimeWrong cX6_isTimeWrong 4 (some .boolean), Cond.constantLong RX6 98 (-1), Cond.fieldLink RX6 33 "StreamRemuxer$PageReader" "latestTime" "J", Cond.constantLong RX6 100 (1099511627775), Cond.methodLink RX6 90 yX4_hasRoom, Cond.instanceMethod yX4_hasRoom, Cond.selects RX4 yX4_hasRoom yX4_hasRoom, Cond.initialized RX4, Cond.code yX4_hasRoom cX4_hasRoom 3 (some .boolean), Cond.fieldLink RX4 28 "StreamRemuxer$PacketList" "packets" "I", Cond.fieldLink RX4 14 "StreamRemuxer$PacketList" "bytes" "LStreamRemuxer$Row;", Cond.fieldLink RX4 61 "StreamRemuxer$Row" "length" "I"]
def wsX6_faultOf : List Cond := .code yX6_faultOf cX6_faultOf 6 (some .int) :: ((wsX6_faultOf_r1 ++ (wsX6_faultOf_r2 ++ wsX6_faultOf_r3)) ++ wsX60 ++ wsX80 ++ wsX40)
def wsX6_takePage_r1 : List Cond := [Cond.fieldLink RX6 9 "StreamRemuxer$PageReader" "file" "LStreamRemuxer$Row;", Cond.fieldLink RX6 33 "StreamRemuxer$PageReader" "latestTime" "J", Cond.fieldLink RX6 19 "StreamRemuxer$PageReader" "target" "LStreamRemuxer$PacketList;", Cond.fieldLink RX6 102 "StreamRemuxer$PacketList" "bytes" "LStreamRemuxer$Row;", Cond.fieldLink RX6 26 "StreamRemuxer$PageReader" "packetIsOpen" "Z", Cond.constantLong RX6 98 (-1), Cond.fieldLink RX6 30 "StreamRemuxer$PageReader" "lastWasRead" "Z", Cond.fieldLink RX6 95 "StreamRemuxer$PageReader" "serial" "I", Cond.fieldLink RX6 23 "StreamRemuxer$PageReader" "pageCount" "I", Cond.methodLink RX6 60 yX8_at, Cond.instanceMethod yX8_at, Cond.selects RX8 yX8_at yX8_at, Cond.initialized RX8, Cond.code yX8_at cX8_at 2 (some .int), Cond.fieldLink RX8 25 "StreamRemuxer$Row" "length" "I", Cond.fieldLink RX8 21 "StreamRemuxer$Row" "words" "[I", Cond.methodLink RX6 79 yX6_packetsEnding, Cond.instanceMethod yX6_packetsEnding, Cond.selects RX6 yX6_packetsEnding yX6_packetsEnding, Cond.initialized RX6, Cond.code yX6_packetsEnding cX6_packetsEnding 5 (some .int), Cond.methodLink RX6 82 yX8_lowFirst, Cond.instanceMethod yX8_lowFirst, Cond.selects RX8 yX8_lowFirst yX8_lowFirst]
def wsX6_takePage_r2 : List Cond := [Cond.code yX8_lowFirst cX8_lowFirst 6 (some .long), Cond.methodLink RX8 40 yX8_at, Cond.methodLink RX6 105 yX8_addPart, Cond.instanceMethod yX8_addPart, Cond.selects RX8 yX8_addPart yX8_addPart, Cond.code yX8_addPart cX8_addPart 5 none, Cond.methodLink RX8 36 yX8_add, Cond.instanceMethod yX8_add, Cond.selects RX8 yX8_add yX8_add, Cond.code yX8_add cX8_add 2 none, Cond.fieldLink RX8 15 "StreamRemuxer$Row" "most" "I", Cond.fieldLink RX8 28 "StreamRemuxer$Row" "overfull" "Z", Cond.methodLink RX8 32 yX8_change, Cond.instanceMethod yX8_change, Cond.selects RX8 yX8_change yX8_change, Cond.code yX8_change cX8_change 4 (some .boolean), Cond.methodLink RX6 109 yX4_endPacket, Cond.instanceMethod yX4_endPacket, Cond.selects RX4 yX4_endPacket yX4_endPacket, Cond.initialized RX4, Cond.code yX4_endPacket cX4_endPacket 3 none, Cond.fieldLink RX4 28 "StreamRemuxer$PacketList" "packets" "I", Cond.fieldLink RX4 20 "StreamRemuxer$PacketList" "ends" "[I", Cond.fieldLink RX4 14 "StreamRemuxer$PacketList" "bytes" "LStreamRemuxer$Row;"]
def wsX6_takePage_r3 : List Cond := [Cond.fieldLink RX4 61 "StreamRemuxer$Row" "length" "I", Cond.fieldLink RX4 24 "StreamRemuxer$PacketList" "times" "[J", Cond.methodLink RX6 72 yX6_numberAt, Cond.instanceMethod yX6_numberAt, Cond.selects RX6 yX6_numberAt yX6_numberAt, Cond.code yX6_numberAt cX6_numberAt 2 (some .int)]
def wsX6_takePage : List Cond := .code yX6_takePage cX6_takePage 9 (some .int) :: ((wsX6_takePage_r1 ++ (wsX6_takePage_r2 ++ wsX6_takePage_r3)) ++ wsX60 ++ wsX40 ++ wsX80)
def wsX6_faultAtEnd : List Cond := .code yX6_faultAtEnd cX6_faultAtEnd 1 (some .int) :: ([.fieldLink RX6 23 "StreamRemuxer$PageReader" "pageCount" "I", .fieldLink RX6 30 "StreamRemuxer$PageReader" "lastWasRead" "Z", .fieldLink RX6 26 "StreamRemuxer$PageReader" "packetIsOpen" "Z"] ++ wsX60)
def wsX6_read_r1 : List Cond := [Cond.fieldLink RX6 9 "StreamRemuxer$PageReader" "file" "LStreamRemuxer$Row;", Cond.fieldLink RX6 15 "StreamRemuxer$PageReader" "limit" "I", Cond.fieldLink RX6 19 "StreamRemuxer$PageReader" "target" "LStreamRemuxer$PacketList;", Cond.fieldLink RX6 23 "StreamRemuxer$PageReader" "pageCount" "I", Cond.fieldLink RX6 26 "StreamRemuxer$PageReader" "packetIsOpen" "Z", Cond.fieldLink RX6 30 "StreamRemuxer$PageReader" "lastWasRead" "Z", Cond.fieldLink RX6 33 "StreamRemuxer$PageReader" "latestTime" "J", Cond.fieldLink RX6 37 "StreamRemuxer$PageReader" "fault" "I", Cond.fieldLink RX6 40 "StreamRemuxer$PageReader" "place" "I", Cond.methodLink RX6 43 yX6_faultOf, Cond.instanceMethod yX6_faultOf, Cond.selects RX6 yX6_faultOf yX6_faultOf, Cond.initialized RX6, Cond.code yX6_faultOf cX6_faultOf 6 (some .int), Cond.methodLink RX6 56 yX5_isMarked, Cond.static yX5_isMarked, Cond.initialized RX5, Cond.code yX5_isMarked cX5_isMarked 2 (some .boolean), Cond.constant RX5 17 (1332176723), Cond.methodLink RX5 9 yX8_highFirst, Cond.instanceMethod yX8_highFirst, Cond.selects RX8 yX8_highFirst yX8_highFirst, Cond.initialized RX8, Cond.code yX8_highFirst cX8_highFirst 6 (some .long)]
def wsX6_read_r2 : List Cond := [Cond.methodLink RX8 40 yX8_at, Cond.instanceMethod yX8_at, Cond.selects RX8 yX8_at yX8_at, Cond.code yX8_at cX8_at 2 (some .int), Cond.fieldLink RX8 25 "StreamRemuxer$Row" "length" "I", Cond.fieldLink RX8 21 "StreamRemuxer$Row" "words" "[I", Cond.methodLink RX6 60 yX8_at, Cond.methodLink RX6 65 yX5_endOf, Cond.static yX5_endOf, Cond.code yX5_endOf cX5_endOf 6 (some .int), Cond.methodLink RX5 18 yX8_at, Cond.methodLink RX6 69 yX5_sumOf, Cond.static yX5_sumOf, Cond.code yX5_sumOf cX5_sumOf 7 (some .int), Cond.fieldLink RX5 22 "StreamRemuxer$PageForm" "FOUR_SHIFTS" "[I", Cond.methodLink RX6 72 yX6_numberAt, Cond.instanceMethod yX6_numberAt, Cond.selects RX6 yX6_numberAt yX6_numberAt, Cond.code yX6_numberAt cX6_numberAt 2 (some .int), Cond.methodLink RX6 82 yX8_lowFirst, Cond.instanceMethod yX8_lowFirst, Cond.selects RX8 yX8_lowFirst yX8_lowFirst, Cond.code yX8_lowFirst cX8_lowFirst 6 (some .long), Cond.methodLink RX6 75 yX6_isOutOfOrder]
def wsX6_read_r3 : List Cond := [Cond.instanceMethod yX6_isOutOfOrder, Cond.selects RX6 yX6_isOutOfOrder yX6_isOutOfOrder, Cond.code yX6_isOutOfOrder cX6_isOutOfOrder 4 (some .boolean), Cond.fieldLink RX6 95 "StreamRemuxer$PageReader" "serial" "I", Cond.methodLink RX6 79 yX6_packetsEnding, Cond.instanceMethod yX6_packetsEnding, Cond.selects RX6 yX6_packetsEnding yX6_packetsEnding, Cond.code yX6_packetsEnding cX6_packetsEnding 5 (some .int), Cond.methodLink RX6 86 yX6_isTimeWrong, Cond.instanceMethod yX6_isTimeWrong, Cond.selects RX6 yX6_isTimeWrong yX6_isTimeWrong, Cond.code yX6_isTimeWrong cX6_isTimeWrong 4 (some .boolean), Cond.constantLong RX6 98 (-1), Cond.constantLong RX6 100 (1099511627775), Cond.methodLink RX6 90 yX4_hasRoom, Cond.instanceMethod yX4_hasRoom, Cond.selects RX4 yX4_hasRoom yX4_hasRoom, Cond.initialized RX4, Cond.code yX4_hasRoom cX4_hasRoom 3 (some .boolean), Cond.fieldLink RX4 28 "StreamRemuxer$PacketList" "packets" "I", Cond.fieldLink RX4 14 "StreamRemuxer$PacketList" "bytes" "LStreamRemuxer$Row;", Cond.fieldLink RX4 61 "StreamRemuxer$Row" "length" "I", Cond.methodLink RX6 47 yX6_takePage, Cond.instanceMethod yX6_takePage]
def wsX6_read_r4 : List Cond := [Cond.selects RX6 yX6_takePage yX6_takePage, Cond.code yX6_takePage cX6_takePage 9 (some .int), Cond.fieldLink RX6 102 "StreamRemuxer$PacketList" "bytes" "LStreamRemuxer$Row;", Cond.methodLink RX6 105 yX8_addPart, Cond.instanceMethod yX8_addPart, Cond.selects RX8 yX8_addPart yX8_addPart, Cond.code yX8_addPart cX8_addPart 5 none, Cond.methodLink RX8 36 yX8_add, Cond.instanceMethod yX8_add, Cond.selects RX8 yX8_add yX8_add, Cond.code yX8_add cX8_add 2 none, Cond.fieldLink RX8 15 "StreamRemuxer$Row" "most" "I", Cond.fieldLink RX8 28 "StreamRemuxer$Row" "overfull" "Z", Cond.methodLink RX8 32 yX8_change, Cond.instanceMethod yX8_change, Cond.selects RX8 yX8_change yX8_change, Cond.code yX8_change cX8_change 4 (some .boolean), Cond.methodLink RX6 109 yX4_endPacket, Cond.instanceMethod yX4_endPacket, Cond.selects RX4 yX4_endPacket yX4_endPacket, Cond.code yX4_endPacket cX4_endPacket 3 none, Cond.fieldLink RX4 20 "StreamRemuxer$PacketList" "ends" "[I", Cond.fieldLink RX4 24 "StreamRemuxer$PacketList" "times" "[J", Cond.methodLink RX6 50 yX6_faultAtEnd]
def wsX6_read_r5 : List Cond := [Cond.instanceMethod yX6_faultAtEnd, Cond.selects RX6 yX6_faultAtEnd yX6_faultAtEnd, Cond.code yX6_faultAtEnd cX6_faultAtEnd 1 (some .int)]
def wsX6_read : List Cond := .code yX6_read cX6_read 6 none :: ((wsX6_read_r1 ++ (wsX6_read_r2 ++ (wsX6_read_r3 ++ (wsX6_read_r4 ++ wsX6_read_r5)))) ++ wsX60 ++ wsX80 ++ wsX40)
def wsX7_init : List Cond := .code yX7_init cX7_init 1 none :: ([.methodLink RX7 3 objectInit, .instanceMethod objectInit, .code objectInit ⟨#[0xb1]⟩ 1 none, .arrayClass .int, .fieldLink RX7 11 "StreamRemuxer$PageWriter" "segmentSizes" "[I"] ++ wsX70)
def wsX7_beginPage : List Cond := .code yX7_beginPage cX7_beginPage 1 none :: ([.fieldLink RX7 55 "StreamRemuxer$PageWriter" "segments" "I", .fieldLink RX7 62 "StreamRemuxer$PageWriter" "packetsEnded" "I", .fieldLink RX7 65 "StreamRemuxer$PageWriter" "lastEnded" "I"] ++ wsX70)
def wsX7_addSegment : List Cond := .code yX7_addSegment cX7_addSegment 2 none :: ([.fieldLink RX7 55 "StreamRemuxer$PageWriter" "segments" "I", .fieldLink RX7 11 "StreamRemuxer$PageWriter" "segmentSizes" "[I"] ++ wsX70)
def wsX8_addLowFirst : List Cond := .code yX8_addLowFirst cX8_addLowFirst 5 none :: ([.methodLink RX8 36 yX8_add, .instanceMethod yX8_add, .selects RX8 yX8_add yX8_add, .initialized RX8, .code yX8_add cX8_add 2 none, .fieldLink RX8 25 "StreamRemuxer$Row" "length" "I", .fieldLink RX8 15 "StreamRemuxer$Row" "most" "I", .fieldLink RX8 28 "StreamRemuxer$Row" "overfull" "Z", .methodLink RX8 32 yX8_change, .instanceMethod yX8_change, .selects RX8 yX8_change yX8_change, .code yX8_change cX8_change 4 (some .boolean), .fieldLink RX8 21 "StreamRemuxer$Row" "words" "[I"] ++ wsX80)
def wsX7_putHeader_r1 : List Cond := [Cond.fieldLink RX7 35 "StreamRemuxer$PageWriter" "goesOn" "Z", Cond.fieldLink RX7 29 "StreamRemuxer$PageWriter" "number" "I", Cond.fieldLink RX7 21 "StreamRemuxer$PageWriter" "target" "LStreamRemuxer$Row;", Cond.constantLong RX7 90 (1332176723), Cond.fieldLink RX7 65 "StreamRemuxer$PageWriter" "lastEnded" "I", Cond.constantLong RX7 96 (-1), Cond.fieldLink RX7 17 "StreamRemuxer$PageWriter" "source" "LStreamRemuxer$PacketList;", Cond.fieldLink RX7 25 "StreamRemuxer$PageWriter" "serial" "I", Cond.fieldLink RX7 55 "StreamRemuxer$PageWriter" "segments" "I", Cond.methodLink RX7 92 yX8_addHighFirst, Cond.instanceMethod yX8_addHighFirst, Cond.selects RX8 yX8_addHighFirst yX8_addHighFirst, Cond.initialized RX8, Cond.code yX8_addHighFirst cX8_addHighFirst 5 none, Cond.methodLink RX8 36 yX8_add, Cond.instanceMethod yX8_add, Cond.selects RX8 yX8_add yX8_add, Cond.code yX8_add cX8_add 2 none, Cond.fieldLink RX8 25 "StreamRemuxer$Row" "length" "I", Cond.fieldLink RX8 15 "StreamRemuxer$Row" "most" "I", Cond.fieldLink RX8 28 "StreamRemuxer$Row" "overfull" "Z", Cond.methodLink RX8 32 yX8_change, Cond.instanceMethod yX8_change, Cond.selects RX8 yX8_change yX8_change]
def wsX7_putHeader_r2 : List Cond := [Cond.code yX8_change cX8_change 4 (some .boolean), Cond.fieldLink RX8 21 "StreamRemuxer$Row" "words" "[I", Cond.methodLink RX7 77 yX8_add, Cond.methodLink RX7 98 yX4_timeToWrite, Cond.instanceMethod yX4_timeToWrite, Cond.selects RX4 yX4_timeToWrite yX4_timeToWrite, Cond.initialized RX4, Cond.code yX4_timeToWrite cX4_timeToWrite 3 (some .long), Cond.constantLong RX4 49 (-1), Cond.methodLink RX4 51 yX4_timeOf, Cond.instanceMethod yX4_timeOf, Cond.selects RX4 yX4_timeOf yX4_timeOf, Cond.code yX4_timeOf cX4_timeOf 2 (some .long), Cond.fieldLink RX4 24 "StreamRemuxer$PacketList" "times" "[J", Cond.methodLink RX4 35 yX4_holds, Cond.instanceMethod yX4_holds, Cond.selects RX4 yX4_holds yX4_holds, Cond.code yX4_holds cX4_holds 2 (some .boolean), Cond.fieldLink RX4 28 "StreamRemuxer$PacketList" "packets" "I", Cond.methodLink RX7 102 yX8_addLowFirst, Cond.instanceMethod yX8_addLowFirst, Cond.selects RX8 yX8_addLowFirst yX8_addLowFirst, Cond.code yX8_addLowFirst cX8_addLowFirst 5 none]
def wsX7_putHeader : List Cond := .code yX7_putHeader cX7_putHeader 3 none :: ((wsX7_putHeader_r1 ++ wsX7_putHeader_r2) ++ wsX70 ++ wsX80 ++ wsX40)
def wsX7_endPage_r1 : List Cond := [Cond.fieldLink RX7 21 "StreamRemuxer$PageWriter" "target" "LStreamRemuxer$Row;", Cond.fieldLink RX7 68 "StreamRemuxer$Row" "length" "I", Cond.fieldLink RX7 32 "StreamRemuxer$PageWriter" "written" "I", Cond.fieldLink RX7 55 "StreamRemuxer$PageWriter" "segments" "I", Cond.fieldLink RX7 11 "StreamRemuxer$PageWriter" "segmentSizes" "[I", Cond.fieldLink RX7 17 "StreamRemuxer$PageWriter" "source" "LStreamRemuxer$PacketList;", Cond.fieldLink RX7 80 "StreamRemuxer$PacketList" "bytes" "LStreamRemuxer$Row;", Cond.fieldLink RX7 29 "StreamRemuxer$PageWriter" "number" "I", Cond.fieldLink RX7 35 "StreamRemuxer$PageWriter" "goesOn" "Z", Cond.methodLink RX7 73 yX7_putHeader, Cond.instanceMethod yX7_putHeader, Cond.selects RX7 yX7_putHeader yX7_putHeader, Cond.initialized RX7, Cond.code yX7_putHeader cX7_putHeader 3 none, Cond.constantLong RX7 90 (1332176723), Cond.fieldLink RX7 65 "StreamRemuxer$PageWriter" "lastEnded" "I", Cond.constantLong RX7 96 (-1), Cond.fieldLink RX7 25 "StreamRemuxer$PageWriter" "serial" "I", Cond.methodLink RX7 92 yX8_addHighFirst, Cond.instanceMethod yX8_addHighFirst, Cond.selects RX8 yX8_addHighFirst yX8_addHighFirst, Cond.initialized RX8, Cond.code yX8_addHighFirst cX8_addHighFirst 5 none, Cond.methodLink RX8 36 yX8_add]
def wsX7_endPage_r2 : List Cond := [Cond.instanceMethod yX8_add, Cond.selects RX8 yX8_add yX8_add, Cond.code yX8_add cX8_add 2 none, Cond.fieldLink RX8 25 "StreamRemuxer$Row" "length" "I", Cond.fieldLink RX8 15 "StreamRemuxer$Row" "most" "I", Cond.fieldLink RX8 28 "StreamRemuxer$Row" "overfull" "Z", Cond.methodLink RX8 32 yX8_change, Cond.instanceMethod yX8_change, Cond.selects RX8 yX8_change yX8_change, Cond.code yX8_change cX8_change 4 (some .boolean), Cond.fieldLink RX8 21 "StreamRemuxer$Row" "words" "[I", Cond.methodLink RX7 77 yX8_add, Cond.methodLink RX7 98 yX4_timeToWrite, Cond.instanceMethod yX4_timeToWrite, Cond.selects RX4 yX4_timeToWrite yX4_timeToWrite, Cond.initialized RX4, Cond.code yX4_timeToWrite cX4_timeToWrite 3 (some .long), Cond.constantLong RX4 49 (-1), Cond.methodLink RX4 51 yX4_timeOf, Cond.instanceMethod yX4_timeOf, Cond.selects RX4 yX4_timeOf yX4_timeOf, Cond.code yX4_timeOf cX4_timeOf 2 (some .long), Cond.fieldLink RX4 24 "StreamRemuxer$PacketList" "times" "[J", Cond.methodLink RX4 35 yX4_holds]
def wsX7_endPage_r3 : List Cond := [Cond.instanceMethod yX4_holds, Cond.selects RX4 yX4_holds yX4_holds, Cond.code yX4_holds cX4_holds 2 (some .boolean), Cond.fieldLink RX4 28 "StreamRemuxer$PacketList" "packets" "I", Cond.methodLink RX7 102 yX8_addLowFirst, Cond.instanceMethod yX8_addLowFirst, Cond.selects RX8 yX8_addLowFirst yX8_addLowFirst, Cond.code yX8_addLowFirst cX8_addLowFirst 5 none, Cond.methodLink RX7 83 yX8_addPart, Cond.instanceMethod yX8_addPart, Cond.selects RX8 yX8_addPart yX8_addPart, Cond.code yX8_addPart cX8_addPart 5 none, Cond.methodLink RX8 40 yX8_at, Cond.instanceMethod yX8_at, Cond.selects RX8 yX8_at yX8_at, Cond.code yX8_at cX8_at 2 (some .int), Cond.methodLink RX7 87 yX5_makeSumRight, Cond.static yX5_makeSumRight, Cond.initialized RX5, Cond.code yX5_makeSumRight cX5_makeSumRight 5 none, Cond.methodLink RX5 26 yX5_sumOf, Cond.static yX5_sumOf, Cond.code yX5_sumOf cX5_sumOf 7 (some .int), Cond.fieldLink RX5 22 "StreamRemuxer$PageForm" "FOUR_SHIFTS" "[I"]
def wsX7_endPage_r4 : List Cond := [Cond.methodLink RX5 18 yX8_at, Cond.methodLink RX5 30 yX8_change, Cond.methodLink RX7 39 yX7_beginPage, Cond.instanceMethod yX7_beginPage, Cond.selects RX7 yX7_beginPage yX7_beginPage, Cond.code yX7_beginPage cX7_beginPage 1 none, Cond.fieldLink RX7 62 "StreamRemuxer$PageWriter" "packetsEnded" "I"]
def wsX7_endPage : List Cond := .code yX7_endPage cX7_endPage 6 none :: ((wsX7_endPage_r1 ++ (wsX7_endPage_r2 ++ (wsX7_endPage_r3 ++ wsX7_endPage_r4))) ++ wsX70 ++ wsX80 ++ wsX40)
def wsX7_write_r1 : List Cond := [Cond.fieldLink RX7 17 "StreamRemuxer$PageWriter" "source" "LStreamRemuxer$PacketList;", Cond.fieldLink RX7 21 "StreamRemuxer$PageWriter" "target" "LStreamRemuxer$Row;", Cond.fieldLink RX7 25 "StreamRemuxer$PageWriter" "serial" "I", Cond.fieldLink RX7 29 "StreamRemuxer$PageWriter" "number" "I", Cond.fieldLink RX7 32 "StreamRemuxer$PageWriter" "written" "I", Cond.fieldLink RX7 35 "StreamRemuxer$PageWriter" "goesOn" "Z", Cond.fieldLink RX7 42 "StreamRemuxer$PacketList" "packets" "I", Cond.fieldLink RX7 55 "StreamRemuxer$PageWriter" "segments" "I", Cond.fieldLink RX7 62 "StreamRemuxer$PageWriter" "packetsEnded" "I", Cond.fieldLink RX7 65 "StreamRemuxer$PageWriter" "lastEnded" "I", Cond.methodLink RX7 39 yX7_beginPage, Cond.instanceMethod yX7_beginPage, Cond.selects RX7 yX7_beginPage yX7_beginPage, Cond.initialized RX7, Cond.code yX7_beginPage cX7_beginPage 1 none, Cond.methodLink RX7 47 yX4_bytesOf, Cond.instanceMethod yX4_bytesOf, Cond.selects RX4 yX4_bytesOf yX4_bytesOf, Cond.initialized RX4, Cond.code yX4_bytesOf cX4_bytesOf 2 (some .int), Cond.fieldLink RX4 20 "StreamRemuxer$PacketList" "ends" "[I", Cond.methodLink RX4 35 yX4_holds, Cond.instanceMethod yX4_holds, Cond.selects RX4 yX4_holds yX4_holds]
def wsX7_write_r2 : List Cond := [Cond.code yX4_holds cX4_holds 2 (some .boolean), Cond.fieldLink RX4 28 "StreamRemuxer$PacketList" "packets" "I", Cond.methodLink RX4 39 yX4_beginOf, Cond.instanceMethod yX4_beginOf, Cond.selects RX4 yX4_beginOf yX4_beginOf, Cond.code yX4_beginOf cX4_beginOf 2 (some .int), Cond.methodLink RX7 51 yX7_addSegment, Cond.instanceMethod yX7_addSegment, Cond.selects RX7 yX7_addSegment yX7_addSegment, Cond.code yX7_addSegment cX7_addSegment 2 none, Cond.fieldLink RX7 11 "StreamRemuxer$PageWriter" "segmentSizes" "[I", Cond.methodLink RX7 58 yX7_endPage, Cond.instanceMethod yX7_endPage, Cond.selects RX7 yX7_endPage yX7_endPage, Cond.code yX7_endPage cX7_endPage 6 none, Cond.fieldLink RX7 68 "StreamRemuxer$Row" "length" "I", Cond.fieldLink RX7 80 "StreamRemuxer$PacketList" "bytes" "LStreamRemuxer$Row;", Cond.methodLink RX7 73 yX7_putHeader, Cond.instanceMethod yX7_putHeader, Cond.selects RX7 yX7_putHeader yX7_putHeader, Cond.code yX7_putHeader cX7_putHeader 3 none, Cond.constantLong RX7 90 (1332176723), Cond.constantLong RX7 96 (-1), Cond.methodLink RX7 92 yX8_addHighFirst]
def wsX7_write_r3 : List Cond := [Cond.instanceMethod yX8_addHighFirst, Cond.selects RX8 yX8_addHighFirst yX8_addHighFirst, Cond.initialized RX8, Cond.code yX8_addHighFirst cX8_addHighFirst 5 none, Cond.methodLink RX8 36 yX8_add, Cond.instanceMethod yX8_add, Cond.selects RX8 yX8_add yX8_add, Cond.code yX8_add cX8_add 2 none, Cond.fieldLink RX8 25 "StreamRemuxer$Row" "length" "I", Cond.fieldLink RX8 15 "StreamRemuxer$Row" "most" "I", Cond.fieldLink RX8 28 "StreamRemuxer$Row" "overfull" "Z", Cond.methodLink RX8 32 yX8_change, Cond.instanceMethod yX8_change, Cond.selects RX8 yX8_change yX8_change, Cond.code yX8_change cX8_change 4 (some .boolean), Cond.fieldLink RX8 21 "StreamRemuxer$Row" "words" "[I", Cond.methodLink RX7 77 yX8_add, Cond.methodLink RX7 98 yX4_timeToWrite, Cond.instanceMethod yX4_timeToWrite, Cond.selects RX4 yX4_timeToWrite yX4_timeToWrite, Cond.code yX4_timeToWrite cX4_timeToWrite 3 (some .long), Cond.constantLong RX4 49 (-1), Cond.methodLink RX4 51 yX4_timeOf, Cond.instanceMethod yX4_timeOf]
def wsX7_write_r4 : List Cond := [Cond.selects RX4 yX4_timeOf yX4_timeOf, Cond.code yX4_timeOf cX4_timeOf 2 (some .long), Cond.fieldLink RX4 24 "StreamRemuxer$PacketList" "times" "[J", Cond.methodLink RX7 102 yX8_addLowFirst, Cond.instanceMethod yX8_addLowFirst, Cond.selects RX8 yX8_addLowFirst yX8_addLowFirst, Cond.code yX8_addLowFirst cX8_addLowFirst 5 none, Cond.methodLink RX7 83 yX8_addPart, Cond.instanceMethod yX8_addPart, Cond.selects RX8 yX8_addPart yX8_addPart, Cond.code yX8_addPart cX8_addPart 5 none, Cond.methodLink RX8 40 yX8_at, Cond.instanceMethod yX8_at, Cond.selects RX8 yX8_at yX8_at, Cond.code yX8_at cX8_at 2 (some .int), Cond.methodLink RX7 87 yX5_makeSumRight, Cond.static yX5_makeSumRight, Cond.initialized RX5, Cond.code yX5_makeSumRight cX5_makeSumRight 5 none, Cond.methodLink RX5 26 yX5_sumOf, Cond.static yX5_sumOf, Cond.code yX5_sumOf cX5_sumOf 7 (some .int), Cond.fieldLink RX5 22 "StreamRemuxer$PageForm" "FOUR_SHIFTS" "[I", Cond.methodLink RX5 18 yX8_at]
def wsX7_write_r5 : List Cond := [Cond.methodLink RX5 30 yX8_change]
def wsX7_write : List Cond := .code yX7_write cX7_write 9 none :: ((wsX7_write_r1 ++ (wsX7_write_r2 ++ (wsX7_write_r3 ++ (wsX7_write_r4 ++ wsX7_write_r5)))) ++ wsX70 ++ wsX40 ++ wsX80)
def wsX8_becomeLike : List Cond := .code yX8_becomeLike cX8_becomeLike 2 none :: ([.fieldLink RX8 21 "StreamRemuxer$Row" "words" "[I", .methodLink RX8 44 Lib.Math.min.name, .static Lib.Math.min.name, .initialized "java/lang/Math", .code Lib.Math.min.name Lib.Math.min.code 2 (some .int), .methodLink RX8 47 arraycopyName, .native arraycopyName, .static arraycopyName, .initialized "java/lang/System", .fieldLink RX8 25 "StreamRemuxer$Row" "length" "I", .fieldLink RX8 15 "StreamRemuxer$Row" "most" "I", .fieldLink RX8 28 "StreamRemuxer$Row" "overfull" "Z"] ++ wsX80)
def wsX9_init_r1 : List Cond := [Cond.methodLink RX9 1 objectInit, Cond.instanceMethod objectInit, Cond.code objectInit ⟨#[0xb1]⟩ 1 none, Cond.classLink RX9 7 RX8, Cond.instantiable RX8 4, Cond.initialized RX8, Cond.fieldLink RX9 14 "StreamRemuxer" "tape" "LStreamRemuxer$Row;", Cond.fieldLink RX9 18 "StreamRemuxer" "outRow" "LStreamRemuxer$Row;", Cond.fieldLink RX9 21 "StreamRemuxer" "spareRow" "LStreamRemuxer$Row;", Cond.classLink RX9 24 RX4, Cond.instantiable RX4 4, Cond.initialized RX4, Cond.fieldLink RX9 27 "StreamRemuxer" "list" "LStreamRemuxer$PacketList;", Cond.fieldLink RX9 31 "StreamRemuxer" "spareList" "LStreamRemuxer$PacketList;", Cond.classLink RX9 34 RX7, Cond.instantiable RX7 10, Cond.initialized RX7, Cond.fieldLink RX9 37 "StreamRemuxer" "pageWriter" "LStreamRemuxer$PageWriter;", Cond.classLink RX9 41 RX6, Cond.instantiable RX6 10, Cond.initialized RX6, Cond.fieldLink RX9 44 "StreamRemuxer" "pageReader" "LStreamRemuxer$PageReader;", Cond.classLink RX9 48 RX2, Cond.instantiable RX2 6]
def wsX9_init_r2 : List Cond := [Cond.initialized RX2, Cond.fieldLink RX9 51 "StreamRemuxer" "elementWriter" "LStreamRemuxer$ElementWriter;", Cond.classLink RX9 55 RX1, Cond.instantiable RX1 13, Cond.initialized RX1, Cond.fieldLink RX9 58 "StreamRemuxer" "elementReader" "LStreamRemuxer$ElementReader;", Cond.fieldLink RX9 62 "StreamRemuxer" "fault" "I", Cond.fieldLink RX9 66 "StreamRemuxer" "faultPlace" "I", Cond.methodLink RX9 11 yX8_init, Cond.instanceMethod yX8_init, Cond.code yX8_init cX8_init 2 none, Cond.methodLink RX8 3 objectInit, Cond.methodLink RX8 9 Lib.Math.max.name, Cond.static Lib.Math.max.name, Cond.initialized "java/lang/Math", Cond.code Lib.Math.max.name Lib.Math.max.code 2 (some .int), Cond.fieldLink RX8 15 "StreamRemuxer$Row" "most" "I", Cond.arrayClass .int, Cond.fieldLink RX8 21 "StreamRemuxer$Row" "words" "[I", Cond.instanceMethod yX4_init, Cond.code yX4_init cX4_init 1 none, Cond.methodLink RX4 3 objectInit, Cond.classLink RX4 9 RX8, Cond.fieldLink RX4 14 "StreamRemuxer$PacketList" "bytes" "LStreamRemuxer$Row;"]
def wsX9_init_r3 : List Cond := [Cond.fieldLink RX4 20 "StreamRemuxer$PacketList" "ends" "[I", Cond.arrayClass .long, Cond.fieldLink RX4 24 "StreamRemuxer$PacketList" "times" "[J", Cond.methodLink RX4 11 yX8_init, Cond.instanceMethod yX7_init, Cond.code yX7_init cX7_init 1 none, Cond.methodLink RX7 3 objectInit, Cond.fieldLink RX7 11 "StreamRemuxer$PageWriter" "segmentSizes" "[I", Cond.instanceMethod yX6_init, Cond.code yX6_init cX6_init 1 none, Cond.methodLink RX6 3 objectInit, Cond.instanceMethod yX2_init, Cond.code yX2_init cX2_init 1 none, Cond.methodLink RX2 3 objectInit, Cond.classLink RX2 9 RX8, Cond.fieldLink RX2 16 "StreamRemuxer$ElementWriter" "blockHeader" "LStreamRemuxer$Row;", Cond.methodLink RX2 13 yX8_init, Cond.methodLink RX9 57 yX1_init, Cond.instanceMethod yX1_init, Cond.code yX1_init cX1_init 2 none, Cond.methodLink RX1 5 objectInit, Cond.fieldLink RX1 13 "StreamRemuxer$ElementReader" "lacedSizes" "[I", Cond.classLink RX1 17 RX3, Cond.fieldLink RX1 19 "StreamRemuxer$ElementReader" "levels" "[LStreamRemuxer$Level;"]
def wsX9_init_r4 : List Cond := [Cond.instantiable RX3 5, Cond.initialized RX3, Cond.instanceMethod yX3_init, Cond.code yX3_init cX3_init 1 none, Cond.methodLink RX3 1 objectInit]
def wsX9_init : List Cond := .code yX9_init cX9_init 1 none :: ((wsX9_init_r1 ++ (wsX9_init_r2 ++ (wsX9_init_r3 ++ wsX9_init_r4))) ++ wsX80 ++ wsX90 ++ wsX40 ++ wsX70 ++ wsX60 ++ wsX20 ++ wsX10 ++ wsX30)
def wsX9_feed : List Cond := .code yX9_feed cX9_feed 6 (some .int) :: ([.fieldLink RX9 14 "StreamRemuxer" "tape" "LStreamRemuxer$Row;", .fieldLink RX9 69 "StreamRemuxer$Row" "length" "I", .methodLink RX9 72 yX8_addHighFirst, .instanceMethod yX8_addHighFirst, .selects RX8 yX8_addHighFirst yX8_addHighFirst, .initialized RX8, .code yX8_addHighFirst cX8_addHighFirst 5 none, .methodLink RX8 36 yX8_add, .instanceMethod yX8_add, .selects RX8 yX8_add yX8_add, .code yX8_add cX8_add 2 none, .fieldLink RX8 25 "StreamRemuxer$Row" "length" "I", .fieldLink RX8 15 "StreamRemuxer$Row" "most" "I", .fieldLink RX8 28 "StreamRemuxer$Row" "overfull" "Z", .methodLink RX8 32 yX8_change, .instanceMethod yX8_change, .selects RX8 yX8_change yX8_change, .code yX8_change cX8_change 4 (some .boolean), .fieldLink RX8 21 "StreamRemuxer$Row" "words" "[I"] ++ wsX90 ++ wsX80)
def wsX9_isOnTape : List Cond := .code yX9_isOnTape cX9_isOnTape 2 (some .boolean) :: ([.fieldLink RX9 14 "StreamRemuxer" "tape" "LStreamRemuxer$Row;", .fieldLink RX9 69 "StreamRemuxer$Row" "length" "I"] ++ wsX90 ++ wsX80)
def wsX9_packet_r1 : List Cond := [Cond.constantLong RX9 80 (-1), Cond.constantLong RX9 82 (1099511627775), Cond.fieldLink RX9 27 "StreamRemuxer" "list" "LStreamRemuxer$PacketList;", Cond.fieldLink RX9 88 "StreamRemuxer$PacketList" "bytes" "LStreamRemuxer$Row;", Cond.fieldLink RX9 14 "StreamRemuxer" "tape" "LStreamRemuxer$Row;", Cond.fieldLink RX9 102 "StreamRemuxer$PacketList" "packets" "I", Cond.methodLink RX9 76 yX9_isOnTape, Cond.instanceMethod yX9_isOnTape, Cond.selects RX9 yX9_isOnTape yX9_isOnTape, Cond.initialized RX9, Cond.code yX9_isOnTape cX9_isOnTape 2 (some .boolean), Cond.fieldLink RX9 69 "StreamRemuxer$Row" "length" "I", Cond.methodLink RX9 84 yX4_hasRoom, Cond.instanceMethod yX4_hasRoom, Cond.selects RX4 yX4_hasRoom yX4_hasRoom, Cond.initialized RX4, Cond.code yX4_hasRoom cX4_hasRoom 3 (some .boolean), Cond.fieldLink RX4 28 "StreamRemuxer$PacketList" "packets" "I", Cond.fieldLink RX4 14 "StreamRemuxer$PacketList" "bytes" "LStreamRemuxer$Row;", Cond.fieldLink RX4 61 "StreamRemuxer$Row" "length" "I", Cond.methodLink RX9 91 yX8_addPart, Cond.instanceMethod yX8_addPart, Cond.selects RX8 yX8_addPart yX8_addPart, Cond.initialized RX8]
def wsX9_packet_r2 : List Cond := [Cond.code yX8_addPart cX8_addPart 5 none, Cond.methodLink RX8 40 yX8_at, Cond.instanceMethod yX8_at, Cond.selects RX8 yX8_at yX8_at, Cond.code yX8_at cX8_at 2 (some .int), Cond.fieldLink RX8 25 "StreamRemuxer$Row" "length" "I", Cond.fieldLink RX8 21 "StreamRemuxer$Row" "words" "[I", Cond.methodLink RX8 36 yX8_add, Cond.instanceMethod yX8_add, Cond.selects RX8 yX8_add yX8_add, Cond.code yX8_add cX8_add 2 none, Cond.fieldLink RX8 15 "StreamRemuxer$Row" "most" "I", Cond.fieldLink RX8 28 "StreamRemuxer$Row" "overfull" "Z", Cond.methodLink RX8 32 yX8_change, Cond.instanceMethod yX8_change, Cond.selects RX8 yX8_change yX8_change, Cond.code yX8_change cX8_change 4 (some .boolean), Cond.methodLink RX9 95 yX4_endPacket, Cond.instanceMethod yX4_endPacket, Cond.selects RX4 yX4_endPacket yX4_endPacket, Cond.code yX4_endPacket cX4_endPacket 3 none, Cond.fieldLink RX4 20 "StreamRemuxer$PacketList" "ends" "[I", Cond.fieldLink RX4 24 "StreamRemuxer$PacketList" "times" "[J", Cond.methodLink RX9 99 yX8_empty]
def wsX9_packet_r3 : List Cond := [Cond.instanceMethod yX8_empty, Cond.selects RX8 yX8_empty yX8_empty, Cond.code yX8_empty cX8_empty 1 none]
def wsX9_packet : List Cond := .code yX9_packet cX9_packet 5 (some .int) :: ((wsX9_packet_r1 ++ (wsX9_packet_r2 ++ wsX9_packet_r3)) ++ wsX90 ++ wsX40 ++ wsX80)
def wsX9_clear : List Cond := .code yX9_clear cX9_clear 2 (some .int) :: ([.fieldLink RX9 27 "StreamRemuxer" "list" "LStreamRemuxer$PacketList;", .fieldLink RX9 102 "StreamRemuxer$PacketList" "packets" "I", .methodLink RX9 105 yX4_empty, .instanceMethod yX4_empty, .selects RX4 yX4_empty yX4_empty, .initialized RX4, .code yX4_empty cX4_empty 1 none, .fieldLink RX4 28 "StreamRemuxer$PacketList" "packets" "I", .fieldLink RX4 14 "StreamRemuxer$PacketList" "bytes" "LStreamRemuxer$Row;", .methodLink RX4 32 yX8_empty, .instanceMethod yX8_empty, .selects RX8 yX8_empty yX8_empty, .initialized RX8, .code yX8_empty cX8_empty 1 none, .fieldLink RX8 25 "StreamRemuxer$Row" "length" "I", .fieldLink RX8 28 "StreamRemuxer$Row" "overfull" "Z"] ++ wsX90 ++ wsX40 ++ wsX80)
def wsX9_takeSpareRow : List Cond := .code yX9_takeSpareRow cX9_takeSpareRow 2 (some .int) :: ([.fieldLink RX9 21 "StreamRemuxer" "spareRow" "LStreamRemuxer$Row;", .fieldLink RX9 188 "StreamRemuxer$Row" "overfull" "Z", .fieldLink RX9 18 "StreamRemuxer" "outRow" "LStreamRemuxer$Row;", .fieldLink RX9 69 "StreamRemuxer$Row" "length" "I"] ++ wsX90 ++ wsX80)
def wsX9_pages_r1 : List Cond := [Cond.fieldLink RX9 27 "StreamRemuxer" "list" "LStreamRemuxer$PacketList;", Cond.fieldLink RX9 102 "StreamRemuxer$PacketList" "packets" "I", Cond.fieldLink RX9 21 "StreamRemuxer" "spareRow" "LStreamRemuxer$Row;", Cond.fieldLink RX9 37 "StreamRemuxer" "pageWriter" "LStreamRemuxer$PageWriter;", Cond.methodLink RX9 108 yX4_isInOrderOfTime, Cond.instanceMethod yX4_isInOrderOfTime, Cond.selects RX4 yX4_isInOrderOfTime yX4_isInOrderOfTime, Cond.initialized RX4, Cond.code yX4_isInOrderOfTime cX4_isInOrderOfTime 4 (some .boolean), Cond.constantLong RX4 49 (-1), Cond.fieldLink RX4 28 "StreamRemuxer$PacketList" "packets" "I", Cond.methodLink RX4 55 Lib.MathLoose.max_long.x, Cond.static Lib.MathLoose.max_long.x, Cond.initialized "java/lang/Math", Cond.code Lib.MathLoose.max_long.x Lib.MathLoose.max_long.code 4 (some .long), Cond.methodLink RX4 51 yX4_timeOf, Cond.instanceMethod yX4_timeOf, Cond.selects RX4 yX4_timeOf yX4_timeOf, Cond.code yX4_timeOf cX4_timeOf 2 (some .long), Cond.fieldLink RX4 24 "StreamRemuxer$PacketList" "times" "[J", Cond.methodLink RX4 35 yX4_holds, Cond.instanceMethod yX4_holds, Cond.selects RX4 yX4_holds yX4_holds, Cond.code yX4_holds cX4_holds 2 (some .boolean)]
def wsX9_pages_r2 : List Cond := [Cond.methodLink RX9 99 yX8_empty, Cond.instanceMethod yX8_empty, Cond.selects RX8 yX8_empty yX8_empty, Cond.initialized RX8, Cond.code yX8_empty cX8_empty 1 none, Cond.fieldLink RX8 25 "StreamRemuxer$Row" "length" "I", Cond.fieldLink RX8 28 "StreamRemuxer$Row" "overfull" "Z", Cond.methodLink RX9 112 yX7_write, Cond.instanceMethod yX7_write, Cond.selects RX7 yX7_write yX7_write, Cond.initialized RX7, Cond.code yX7_write cX7_write 9 none, Cond.fieldLink RX7 17 "StreamRemuxer$PageWriter" "source" "LStreamRemuxer$PacketList;", Cond.fieldLink RX7 21 "StreamRemuxer$PageWriter" "target" "LStreamRemuxer$Row;", Cond.fieldLink RX7 25 "StreamRemuxer$PageWriter" "serial" "I", Cond.fieldLink RX7 29 "StreamRemuxer$PageWriter" "number" "I", Cond.fieldLink RX7 32 "StreamRemuxer$PageWriter" "written" "I", Cond.fieldLink RX7 35 "StreamRemuxer$PageWriter" "goesOn" "Z", Cond.fieldLink RX7 42 "StreamRemuxer$PacketList" "packets" "I", Cond.fieldLink RX7 55 "StreamRemuxer$PageWriter" "segments" "I", Cond.fieldLink RX7 62 "StreamRemuxer$PageWriter" "packetsEnded" "I", Cond.fieldLink RX7 65 "StreamRemuxer$PageWriter" "lastEnded" "I", Cond.methodLink RX7 39 yX7_beginPage, Cond.instanceMethod yX7_beginPage]
def wsX9_pages_r3 : List Cond := [Cond.selects RX7 yX7_beginPage yX7_beginPage, Cond.code yX7_beginPage cX7_beginPage 1 none, Cond.methodLink RX7 47 yX4_bytesOf, Cond.instanceMethod yX4_bytesOf, Cond.selects RX4 yX4_bytesOf yX4_bytesOf, Cond.code yX4_bytesOf cX4_bytesOf 2 (some .int), Cond.fieldLink RX4 20 "StreamRemuxer$PacketList" "ends" "[I", Cond.methodLink RX4 39 yX4_beginOf, Cond.instanceMethod yX4_beginOf, Cond.selects RX4 yX4_beginOf yX4_beginOf, Cond.code yX4_beginOf cX4_beginOf 2 (some .int), Cond.methodLink RX7 51 yX7_addSegment, Cond.instanceMethod yX7_addSegment, Cond.selects RX7 yX7_addSegment yX7_addSegment, Cond.code yX7_addSegment cX7_addSegment 2 none, Cond.fieldLink RX7 11 "StreamRemuxer$PageWriter" "segmentSizes" "[I", Cond.methodLink RX7 58 yX7_endPage, Cond.instanceMethod yX7_endPage, Cond.selects RX7 yX7_endPage yX7_endPage, Cond.code yX7_endPage cX7_endPage 6 none, Cond.fieldLink RX7 68 "StreamRemuxer$Row" "length" "I", Cond.fieldLink RX7 80 "StreamRemuxer$PacketList" "bytes" "LStreamRemuxer$Row;", Cond.methodLink RX7 73 yX7_putHeader, Cond.instanceMethod yX7_putHeader]
def wsX9_pages_r4 : List Cond := [Cond.selects RX7 yX7_putHeader yX7_putHeader, Cond.code yX7_putHeader cX7_putHeader 3 none, Cond.constantLong RX7 90 (1332176723), Cond.constantLong RX7 96 (-1), Cond.methodLink RX7 92 yX8_addHighFirst, Cond.instanceMethod yX8_addHighFirst, Cond.selects RX8 yX8_addHighFirst yX8_addHighFirst, Cond.code yX8_addHighFirst cX8_addHighFirst 5 none, Cond.methodLink RX8 36 yX8_add, Cond.instanceMethod yX8_add, Cond.selects RX8 yX8_add yX8_add, Cond.code yX8_add cX8_add 2 none, Cond.fieldLink RX8 15 "StreamRemuxer$Row" "most" "I", Cond.methodLink RX8 32 yX8_change, Cond.instanceMethod yX8_change, Cond.selects RX8 yX8_change yX8_change, Cond.code yX8_change cX8_change 4 (some .boolean), Cond.fieldLink RX8 21 "StreamRemuxer$Row" "words" "[I", Cond.methodLink RX7 77 yX8_add, Cond.methodLink RX7 98 yX4_timeToWrite, Cond.instanceMethod yX4_timeToWrite, Cond.selects RX4 yX4_timeToWrite yX4_timeToWrite, Cond.code yX4_timeToWrite cX4_timeToWrite 3 (some .long), Cond.methodLink RX7 102 yX8_addLowFirst]
def wsX9_pages_r5 : List Cond := [Cond.instanceMethod yX8_addLowFirst, Cond.selects RX8 yX8_addLowFirst yX8_addLowFirst, Cond.code yX8_addLowFirst cX8_addLowFirst 5 none, Cond.methodLink RX7 83 yX8_addPart, Cond.instanceMethod yX8_addPart, Cond.selects RX8 yX8_addPart yX8_addPart, Cond.code yX8_addPart cX8_addPart 5 none, Cond.methodLink RX8 40 yX8_at, Cond.instanceMethod yX8_at, Cond.selects RX8 yX8_at yX8_at, Cond.code yX8_at cX8_at 2 (some .int), Cond.methodLink RX7 87 yX5_makeSumRight, Cond.static yX5_makeSumRight, Cond.initialized RX5, Cond.code yX5_makeSumRight cX5_makeSumRight 5 none, Cond.methodLink RX5 26 yX5_sumOf, Cond.static yX5_sumOf, Cond.code yX5_sumOf cX5_sumOf 7 (some .int), Cond.fieldLink RX5 22 "StreamRemuxer$PageForm" "FOUR_SHIFTS" "[I", Cond.methodLink RX5 18 yX8_at, Cond.methodLink RX5 30 yX8_change, Cond.methodLink RX9 116 yX9_takeSpareRow, Cond.instanceMethod yX9_takeSpareRow, Cond.selects RX9 yX9_takeSpareRow yX9_takeSpareRow]
def wsX9_pages_r6 : List Cond := [Cond.initialized RX9, Cond.code yX9_takeSpareRow cX9_takeSpareRow 2 (some .int), Cond.fieldLink RX9 188 "StreamRemuxer$Row" "overfull" "Z", Cond.fieldLink RX9 18 "StreamRemuxer" "outRow" "LStreamRemuxer$Row;", Cond.fieldLink RX9 69 "StreamRemuxer$Row" "length" "I"]
def wsX9_pages : List Cond := .code yX9_pages cX9_pages 4 (some .int) :: ((wsX9_pages_r1 ++ (wsX9_pages_r2 ++ (wsX9_pages_r3 ++ (wsX9_pages_r4 ++ (wsX9_pages_r5 ++ wsX9_pages_r6))))) ++ wsX90 ++ wsX40 ++ wsX80 ++ wsX70)
def wsX9_elements_r1 : List Cond := [Cond.fieldLink RX9 21 "StreamRemuxer" "spareRow" "LStreamRemuxer$Row;", Cond.fieldLink RX9 51 "StreamRemuxer" "elementWriter" "LStreamRemuxer$ElementWriter;", Cond.fieldLink RX9 27 "StreamRemuxer" "list" "LStreamRemuxer$PacketList;", Cond.methodLink RX9 99 yX8_empty, Cond.instanceMethod yX8_empty, Cond.selects RX8 yX8_empty yX8_empty, Cond.initialized RX8, Cond.code yX8_empty cX8_empty 1 none, Cond.fieldLink RX8 25 "StreamRemuxer$Row" "length" "I", Cond.fieldLink RX8 28 "StreamRemuxer$Row" "overfull" "Z", Cond.methodLink RX9 120 yX2_write, Cond.instanceMethod yX2_write, Cond.selects RX2 yX2_write yX2_write, Cond.initialized RX2, Cond.code yX2_write cX2_write 8 none, Cond.fieldLink RX2 20 "StreamRemuxer$ElementWriter" "source" "LStreamRemuxer$PacketList;", Cond.fieldLink RX2 24 "StreamRemuxer$ElementWriter" "target" "LStreamRemuxer$Row;", Cond.fieldLink RX2 27 "StreamRemuxer$ElementWriter" "lace" "I", Cond.fieldLink RX2 31 "StreamRemuxer$ElementWriter" "mostPackets" "I", Cond.fieldLink RX2 34 "StreamRemuxer$ElementWriter" "unknownSizes" "Z", Cond.fieldLink RX2 38 "StreamRemuxer$ElementWriter" "HEAD_BYTES" "[I", Cond.constant RX2 48 (408125543), Cond.fieldLink RX2 53 "StreamRemuxer$ElementWriter" "INFO_BYTES" "[I", Cond.fieldLink RX2 56 "StreamRemuxer$ElementWriter" "TRACKS_BYTES_TO_LACING" "[I"]
def wsX9_elements_r2 : List Cond := [Cond.fieldLink RX2 62 "StreamRemuxer$ElementWriter" "TRACKS_BYTES_BEHIND" "[I", Cond.methodLink RX2 42 yX8_addEach, Cond.instanceMethod yX8_addEach, Cond.selects RX8 yX8_addEach yX8_addEach, Cond.code yX8_addEach cX8_addEach 3 none, Cond.methodLink RX8 36 yX8_add, Cond.instanceMethod yX8_add, Cond.selects RX8 yX8_add yX8_add, Cond.code yX8_add cX8_add 2 none, Cond.fieldLink RX8 15 "StreamRemuxer$Row" "most" "I", Cond.methodLink RX8 32 yX8_change, Cond.instanceMethod yX8_change, Cond.selects RX8 yX8_change yX8_change, Cond.code yX8_change cX8_change 4 (some .boolean), Cond.fieldLink RX8 21 "StreamRemuxer$Row" "words" "[I", Cond.methodLink RX2 49 yX2_beginLongElement, Cond.instanceMethod yX2_beginLongElement, Cond.selects RX2 yX2_beginLongElement yX2_beginLongElement, Cond.code yX2_beginLongElement cX2_beginLongElement 2 (some .int), Cond.fieldLink RX2 104 "StreamRemuxer$Row" "length" "I", Cond.methodLink RX2 100 yX8_addHighFirst, Cond.instanceMethod yX8_addHighFirst, Cond.selects RX8 yX8_addHighFirst yX8_addHighFirst, Cond.code yX8_addHighFirst cX8_addHighFirst 5 none]
def wsX9_elements_r3 : List Cond := [Cond.methodLink RX2 59 yX8_add, Cond.methodLink RX2 65 yX2_putClusters, Cond.instanceMethod yX2_putClusters, Cond.selects RX2 yX2_putClusters yX2_putClusters, Cond.code yX2_putClusters cX2_putClusters 11 none, Cond.fieldLink RX2 71 "StreamRemuxer$PacketList" "packets" "I", Cond.constant RX2 84 (524531317), Cond.methodLink RX2 76 yX4_timeToWrite, Cond.instanceMethod yX4_timeToWrite, Cond.selects RX4 yX4_timeToWrite yX4_timeToWrite, Cond.initialized RX4, Cond.code yX4_timeToWrite cX4_timeToWrite 3 (some .long), Cond.constantLong RX4 49 (-1), Cond.methodLink RX4 51 yX4_timeOf, Cond.instanceMethod yX4_timeOf, Cond.selects RX4 yX4_timeOf yX4_timeOf, Cond.code yX4_timeOf cX4_timeOf 2 (some .long), Cond.fieldLink RX4 24 "StreamRemuxer$PacketList" "times" "[J", Cond.methodLink RX4 35 yX4_holds, Cond.instanceMethod yX4_holds, Cond.selects RX4 yX4_holds yX4_holds, Cond.code yX4_holds cX4_holds 2 (some .boolean), Cond.fieldLink RX4 28 "StreamRemuxer$PacketList" "packets" "I", Cond.methodLink RX2 80 yX2_fitsBlock]
def wsX9_elements_r4 : List Cond := [Cond.static yX2_fitsBlock, Cond.code yX2_fitsBlock cX2_fitsBlock 2 (some .boolean), Cond.constantLong RX2 96 (-32768), Cond.constantLong RX2 98 (32767), Cond.methodLink RX2 68 yX2_endLongElement, Cond.instanceMethod yX2_endLongElement, Cond.selects RX2 yX2_endLongElement yX2_endLongElement, Cond.code yX2_endLongElement cX2_endLongElement 4 none, Cond.constant RX2 107 (268435456), Cond.methodLink RX2 108 yX8_change, Cond.methodLink RX2 85 yX2_putClusterTime, Cond.instanceMethod yX2_putClusterTime, Cond.selects RX2 yX2_putClusterTime yX2_putClusterTime, Cond.code yX2_putClusterTime cX2_putClusterTime 5 none, Cond.methodLink RX2 112 yX2_putSize, Cond.static yX2_putSize, Cond.code yX2_putSize cX2_putSize 4 none, Cond.methodLink RX2 147 yX0_highestSize, Cond.static yX0_highestSize, Cond.initialized RX0, Cond.code yX0_highestSize cX0_highestSize 1 (some .long), Cond.constantLong RX0 7 (2), Cond.methodLink RX2 89 yX2_packetsOfBlock, Cond.instanceMethod yX2_packetsOfBlock]
def wsX9_elements_r5 : List Cond := [Cond.selects RX2 yX2_packetsOfBlock yX2_packetsOfBlock, Cond.code yX2_packetsOfBlock cX2_packetsOfBlock 4 (some .int), Cond.methodLink RX2 116 yX4_bytesOf, Cond.instanceMethod yX4_bytesOf, Cond.selects RX4 yX4_bytesOf yX4_bytesOf, Cond.code yX4_bytesOf cX4_bytesOf 2 (some .int), Cond.fieldLink RX4 20 "StreamRemuxer$PacketList" "ends" "[I", Cond.methodLink RX4 39 yX4_beginOf, Cond.instanceMethod yX4_beginOf, Cond.selects RX4 yX4_beginOf yX4_beginOf, Cond.code yX4_beginOf cX4_beginOf 2 (some .int), Cond.methodLink RX2 92 yX2_putBlock, Cond.instanceMethod yX2_putBlock, Cond.selects RX2 yX2_putBlock yX2_putBlock, Cond.code yX2_putBlock cX2_putBlock 8 none, Cond.fieldLink RX2 16 "StreamRemuxer$ElementWriter" "blockHeader" "LStreamRemuxer$Row;", Cond.fieldLink RX2 135 "StreamRemuxer$PacketList" "bytes" "LStreamRemuxer$Row;", Cond.methodLink RX2 119 yX8_empty, Cond.methodLink RX2 122 yX2_putSummedSize, Cond.instanceMethod yX2_putSummedSize, Cond.selects RX2 yX2_putSummedSize yX2_putSummedSize, Cond.code yX2_putSummedSize cX2_putSummedSize 4 none, Cond.methodLink RX2 125 yX2_putDifference, Cond.instanceMethod yX2_putDifference]
def wsX9_elements_r6 : List Cond := [Cond.selects RX2 yX2_putDifference yX2_putDifference, Cond.code yX2_putDifference cX2_putDifference 6 none, Cond.methodLink RX2 138 Lib.MathLoose.abs_long.x, Cond.static Lib.MathLoose.abs_long.x, Cond.initialized "java/lang/Math", Cond.code Lib.MathLoose.abs_long.x Lib.MathLoose.abs_long.code 2 (some .long), Cond.methodLink RX2 144 yX0_differenceShift, Cond.static yX0_differenceShift, Cond.code yX0_differenceShift cX0_differenceShift 1 (some .long), Cond.methodLink RX2 128 yX4_beginOf, Cond.methodLink RX2 131 yX8_addPart, Cond.instanceMethod yX8_addPart, Cond.selects RX8 yX8_addPart yX8_addPart, Cond.code yX8_addPart cX8_addPart 5 none, Cond.methodLink RX8 40 yX8_at, Cond.instanceMethod yX8_at, Cond.selects RX8 yX8_at yX8_at, Cond.code yX8_at cX8_at 2 (some .int), Cond.methodLink RX9 116 yX9_takeSpareRow, Cond.instanceMethod yX9_takeSpareRow, Cond.selects RX9 yX9_takeSpareRow yX9_takeSpareRow, Cond.initialized RX9, Cond.code yX9_takeSpareRow cX9_takeSpareRow 2 (some .int), Cond.fieldLink RX9 188 "StreamRemuxer$Row" "overfull" "Z"]
def wsX9_elements_r7 : List Cond := [Cond.fieldLink RX9 18 "StreamRemuxer" "outRow" "LStreamRemuxer$Row;", Cond.fieldLink RX9 69 "StreamRemuxer$Row" "length" "I"]
def wsX9_elements : List Cond := .code yX9_elements cX9_elements 5 (some .int) :: ((wsX9_elements_r1 ++ (wsX9_elements_r2 ++ (wsX9_elements_r3 ++ (wsX9_elements_r4 ++ (wsX9_elements_r5 ++ (wsX9_elements_r6 ++ wsX9_elements_r7)))))) ++ wsX90 ++ wsX80 ++ wsX20 ++ wsX40)
def wsX9_takeSpareList : List Cond := .code yX9_takeSpareList cX9_takeSpareList 2 (some .int) :: ([.fieldLink RX9 14 "StreamRemuxer" "tape" "LStreamRemuxer$Row;", .fieldLink RX9 62 "StreamRemuxer" "fault" "I", .fieldLink RX9 27 "StreamRemuxer" "list" "LStreamRemuxer$PacketList;", .fieldLink RX9 31 "StreamRemuxer" "spareList" "LStreamRemuxer$PacketList;", .fieldLink RX9 102 "StreamRemuxer$PacketList" "packets" "I", .methodLink RX9 99 yX8_empty, .instanceMethod yX8_empty, .selects RX8 yX8_empty yX8_empty, .initialized RX8, .code yX8_empty cX8_empty 1 none, .fieldLink RX8 25 "StreamRemuxer$Row" "length" "I", .fieldLink RX8 28 "StreamRemuxer$Row" "overfull" "Z"] ++ wsX90 ++ wsX40 ++ wsX80)
def wsX9_readPages_r1 : List Cond := [Cond.fieldLink RX9 31 "StreamRemuxer" "spareList" "LStreamRemuxer$PacketList;", Cond.fieldLink RX9 44 "StreamRemuxer" "pageReader" "LStreamRemuxer$PageReader;", Cond.fieldLink RX9 14 "StreamRemuxer" "tape" "LStreamRemuxer$Row;", Cond.fieldLink RX9 127 "StreamRemuxer$PageReader" "fault" "I", Cond.fieldLink RX9 62 "StreamRemuxer" "fault" "I", Cond.fieldLink RX9 128 "StreamRemuxer$PageReader" "place" "I", Cond.fieldLink RX9 66 "StreamRemuxer" "faultPlace" "I", Cond.fieldLink RX9 131 "StreamRemuxer$PageReader" "pageCount" "I", Cond.fieldLink RX9 134 "StreamRemuxer" "pagesRead" "I", Cond.methodLink RX9 76 yX9_isOnTape, Cond.instanceMethod yX9_isOnTape, Cond.selects RX9 yX9_isOnTape yX9_isOnTape, Cond.initialized RX9, Cond.code yX9_isOnTape cX9_isOnTape 2 (some .boolean), Cond.fieldLink RX9 69 "StreamRemuxer$Row" "length" "I", Cond.methodLink RX9 105 yX4_empty, Cond.instanceMethod yX4_empty, Cond.selects RX4 yX4_empty yX4_empty, Cond.initialized RX4, Cond.code yX4_empty cX4_empty 1 none, Cond.fieldLink RX4 28 "StreamRemuxer$PacketList" "packets" "I", Cond.fieldLink RX4 14 "StreamRemuxer$PacketList" "bytes" "LStreamRemuxer$Row;", Cond.methodLink RX4 32 yX8_empty, Cond.instanceMethod yX8_empty]
def wsX9_readPages_r2 : List Cond := [Cond.selects RX8 yX8_empty yX8_empty, Cond.initialized RX8, Cond.code yX8_empty cX8_empty 1 none, Cond.fieldLink RX8 25 "StreamRemuxer$Row" "length" "I", Cond.fieldLink RX8 28 "StreamRemuxer$Row" "overfull" "Z", Cond.methodLink RX9 123 yX6_read, Cond.instanceMethod yX6_read, Cond.selects RX6 yX6_read yX6_read, Cond.initialized RX6, Cond.code yX6_read cX6_read 6 none, Cond.fieldLink RX6 9 "StreamRemuxer$PageReader" "file" "LStreamRemuxer$Row;", Cond.fieldLink RX6 15 "StreamRemuxer$PageReader" "limit" "I", Cond.fieldLink RX6 19 "StreamRemuxer$PageReader" "target" "LStreamRemuxer$PacketList;", Cond.fieldLink RX6 23 "StreamRemuxer$PageReader" "pageCount" "I", Cond.fieldLink RX6 26 "StreamRemuxer$PageReader" "packetIsOpen" "Z", Cond.fieldLink RX6 30 "StreamRemuxer$PageReader" "lastWasRead" "Z", Cond.fieldLink RX6 33 "StreamRemuxer$PageReader" "latestTime" "J", Cond.fieldLink RX6 37 "StreamRemuxer$PageReader" "fault" "I", Cond.fieldLink RX6 40 "StreamRemuxer$PageReader" "place" "I", Cond.methodLink RX6 43 yX6_faultOf, Cond.instanceMethod yX6_faultOf, Cond.selects RX6 yX6_faultOf yX6_faultOf, Cond.code yX6_faultOf cX6_faultOf 6 (some .int), Cond.methodLink RX6 56 yX5_isMarked]
def wsX9_readPages_r3 : List Cond := [Cond.static yX5_isMarked, Cond.initialized RX5, Cond.code yX5_isMarked cX5_isMarked 2 (some .boolean), Cond.constant RX5 17 (1332176723), Cond.methodLink RX5 9 yX8_highFirst, Cond.instanceMethod yX8_highFirst, Cond.selects RX8 yX8_highFirst yX8_highFirst, Cond.code yX8_highFirst cX8_highFirst 6 (some .long), Cond.methodLink RX8 40 yX8_at, Cond.instanceMethod yX8_at, Cond.selects RX8 yX8_at yX8_at, Cond.code yX8_at cX8_at 2 (some .int), Cond.fieldLink RX8 21 "StreamRemuxer$Row" "words" "[I", Cond.methodLink RX6 60 yX8_at, Cond.methodLink RX6 65 yX5_endOf, Cond.static yX5_endOf, Cond.code yX5_endOf cX5_endOf 6 (some .int), Cond.methodLink RX5 18 yX8_at, Cond.methodLink RX6 69 yX5_sumOf, Cond.static yX5_sumOf, Cond.code yX5_sumOf cX5_sumOf 7 (some .int), Cond.fieldLink RX5 22 "StreamRemuxer$PageForm" "FOUR_SHIFTS" "[I", Cond.methodLink RX6 72 yX6_numberAt, Cond.instanceMethod yX6_numberAt]
def wsX9_readPages_r4 : List Cond := [Cond.selects RX6 yX6_numberAt yX6_numberAt, Cond.code yX6_numberAt cX6_numberAt 2 (some .int), Cond.methodLink RX6 82 yX8_lowFirst, Cond.instanceMethod yX8_lowFirst, Cond.selects RX8 yX8_lowFirst yX8_lowFirst, Cond.code yX8_lowFirst cX8_lowFirst 6 (some .long), Cond.methodLink RX6 75 yX6_isOutOfOrder, Cond.instanceMethod yX6_isOutOfOrder, Cond.selects RX6 yX6_isOutOfOrder yX6_isOutOfOrder, Cond.code yX6_isOutOfOrder cX6_isOutOfOrder 4 (some .boolean), Cond.fieldLink RX6 95 "StreamRemuxer$PageReader" "serial" "I", Cond.methodLink RX6 79 yX6_packetsEnding, Cond.instanceMethod yX6_packetsEnding, Cond.selects RX6 yX6_packetsEnding yX6_packetsEnding, Cond.code yX6_packetsEnding cX6_packetsEnding 5 (some .int), Cond.methodLink RX6 86 yX6_isTimeWrong, Cond.instanceMethod yX6_isTimeWrong, Cond.selects RX6 yX6_isTimeWrong yX6_isTimeWrong, Cond.code yX6_isTimeWrong cX6_isTimeWrong 4 (some .boolean), Cond.constantLong RX6 98 (-1), Cond.constantLong RX6 100 (1099511627775), Cond.methodLink RX6 90 yX4_hasRoom, Cond.instanceMethod yX4_hasRoom, Cond.selects RX4 yX4_hasRoom yX4_hasRoom]
def wsX9_readPages_r5 : List Cond := [Cond.code yX4_hasRoom cX4_hasRoom 3 (some .boolean), Cond.fieldLink RX4 61 "StreamRemuxer$Row" "length" "I", Cond.methodLink RX6 47 yX6_takePage, Cond.instanceMethod yX6_takePage, Cond.selects RX6 yX6_takePage yX6_takePage, Cond.code yX6_takePage cX6_takePage 9 (some .int), Cond.fieldLink RX6 102 "StreamRemuxer$PacketList" "bytes" "LStreamRemuxer$Row;", Cond.methodLink RX6 105 yX8_addPart, Cond.instanceMethod yX8_addPart, Cond.selects RX8 yX8_addPart yX8_addPart, Cond.code yX8_addPart cX8_addPart 5 none, Cond.methodLink RX8 36 yX8_add, Cond.instanceMethod yX8_add, Cond.selects RX8 yX8_add yX8_add, Cond.code yX8_add cX8_add 2 none, Cond.fieldLink RX8 15 "StreamRemuxer$Row" "most" "I", Cond.methodLink RX8 32 yX8_change, Cond.instanceMethod yX8_change, Cond.selects RX8 yX8_change yX8_change, Cond.code yX8_change cX8_change 4 (some .boolean), Cond.methodLink RX6 109 yX4_endPacket, Cond.instanceMethod yX4_endPacket, Cond.selects RX4 yX4_endPacket yX4_endPacket, Cond.code yX4_endPacket cX4_endPacket 3 none]
def wsX9_readPages_r6 : List Cond := [Cond.fieldLink RX4 20 "StreamRemuxer$PacketList" "ends" "[I", Cond.fieldLink RX4 24 "StreamRemuxer$PacketList" "times" "[J", Cond.methodLink RX6 50 yX6_faultAtEnd, Cond.instanceMethod yX6_faultAtEnd, Cond.selects RX6 yX6_faultAtEnd yX6_faultAtEnd, Cond.code yX6_faultAtEnd cX6_faultAtEnd 1 (some .int), Cond.methodLink RX9 137 yX9_takeSpareList, Cond.instanceMethod yX9_takeSpareList, Cond.selects RX9 yX9_takeSpareList yX9_takeSpareList, Cond.code yX9_takeSpareList cX9_takeSpareList 2 (some .int), Cond.fieldLink RX9 27 "StreamRemuxer" "list" "LStreamRemuxer$PacketList;", Cond.fieldLink RX9 102 "StreamRemuxer$PacketList" "packets" "I", Cond.methodLink RX9 99 yX8_empty]
def wsX9_readPages : List Cond := .code yX9_readPages cX9_readPages 2 (some .int) :: ((wsX9_readPages_r1 ++ (wsX9_readPages_r2 ++ (wsX9_readPages_r3 ++ (wsX9_readPages_r4 ++ (wsX9_readPages_r5 ++ wsX9_readPages_r6))))) ++ wsX90 ++ wsX60 ++ wsX80 ++ wsX40)
def wsX9_readElements_r1 : List Cond := [Cond.fieldLink RX9 31 "StreamRemuxer" "spareList" "LStreamRemuxer$PacketList;", Cond.fieldLink RX9 58 "StreamRemuxer" "elementReader" "LStreamRemuxer$ElementReader;", Cond.fieldLink RX9 14 "StreamRemuxer" "tape" "LStreamRemuxer$Row;", Cond.fieldLink RX9 141 "StreamRemuxer$ElementReader" "fault" "I", Cond.fieldLink RX9 62 "StreamRemuxer" "fault" "I", Cond.fieldLink RX9 142 "StreamRemuxer$ElementReader" "place" "I", Cond.fieldLink RX9 66 "StreamRemuxer" "faultPlace" "I", Cond.fieldLink RX9 143 "StreamRemuxer$ElementReader" "clusters" "I", Cond.fieldLink RX9 146 "StreamRemuxer" "clustersRead" "I", Cond.fieldLink RX9 149 "StreamRemuxer$ElementReader" "blocks" "I", Cond.fieldLink RX9 152 "StreamRemuxer" "blocksRead" "I", Cond.methodLink RX9 76 yX9_isOnTape, Cond.instanceMethod yX9_isOnTape, Cond.selects RX9 yX9_isOnTape yX9_isOnTape, Cond.initialized RX9, Cond.code yX9_isOnTape cX9_isOnTape 2 (some .boolean), Cond.fieldLink RX9 69 "StreamRemuxer$Row" "length" "I", Cond.methodLink RX9 105 yX4_empty, Cond.instanceMethod yX4_empty, Cond.selects RX4 yX4_empty yX4_empty, Cond.initialized RX4, Cond.code yX4_empty cX4_empty 1 none, Cond.fieldLink RX4 28 "StreamRemuxer$PacketList" "packets" "I", Cond.fieldLink RX4 14 "StreamRemuxer$PacketList" "bytes" "LStreamRemuxer$Row;"]
def wsX9_readElements_r2 : List Cond := [Cond.methodLink RX4 32 yX8_empty, Cond.instanceMethod yX8_empty, Cond.selects RX8 yX8_empty yX8_empty, Cond.initialized RX8, Cond.code yX8_empty cX8_empty 1 none, Cond.fieldLink RX8 25 "StreamRemuxer$Row" "length" "I", Cond.fieldLink RX8 28 "StreamRemuxer$Row" "overfull" "Z", Cond.methodLink RX9 140 yX1_read, Cond.instanceMethod yX1_read, Cond.selects RX1 yX1_read yX1_read, Cond.initialized RX1, Cond.code yX1_read cX1_read 7 none, Cond.fieldLink RX1 24 "StreamRemuxer$ElementReader" "file" "LStreamRemuxer$Row;", Cond.fieldLink RX1 28 "StreamRemuxer$ElementReader" "target" "LStreamRemuxer$PacketList;", Cond.fieldLink RX1 32 "StreamRemuxer$ElementReader" "fault" "I", Cond.fieldLink RX1 36 "StreamRemuxer$ElementReader" "place" "I", Cond.fieldLink RX1 39 "StreamRemuxer$ElementReader" "clusters" "I", Cond.fieldLink RX1 42 "StreamRemuxer$ElementReader" "blocks" "I", Cond.constantLong RX1 45 (-1), Cond.fieldLink RX1 47 "StreamRemuxer$ElementReader" "trackNumber" "J", Cond.fieldLink RX1 51 "StreamRemuxer$ElementReader" "clusterTime" "J", Cond.fieldLink RX1 54 "StreamRemuxer$ElementReader" "depth" "I", Cond.fieldLink RX1 19 "StreamRemuxer$ElementReader" "levels" "[LStreamRemuxer$Level;", Cond.fieldLink RX1 61 "StreamRemuxer$Level" "end" "I"]
def wsX9_readElements_r3 : List Cond := [Cond.methodLink RX1 57 yX1_openLevel, Cond.instanceMethod yX1_openLevel, Cond.selects RX1 yX1_openLevel yX1_openLevel, Cond.code yX1_openLevel cX1_openLevel 6 (some .int), Cond.fieldLink RX1 75 "StreamRemuxer$Level" "id" "I", Cond.fieldLink RX1 78 "StreamRemuxer$Level" "missingPlace" "I", Cond.fieldLink RX1 81 "StreamRemuxer$Level" "seen" "I", Cond.fieldLink RX1 84 "StreamRemuxer$Level" "tillCluster" "Z", Cond.constant RX1 88 (524531317), Cond.fieldLink RX1 89 "StreamRemuxer$ElementReader" "bodySize" "J", Cond.methodLink RX1 71 yX1_fail, Cond.instanceMethod yX1_fail, Cond.selects RX1 yX1_fail yX1_fail, Cond.code yX1_fail cX1_fail 3 (some .int), Cond.methodLink RX1 64 yX1_readElement, Cond.instanceMethod yX1_readElement, Cond.selects RX1 yX1_readElement yX1_readElement, Cond.code yX1_readElement cX1_readElement 7 (some .int), Cond.methodLink RX1 96 yX1_readId, Cond.instanceMethod yX1_readId, Cond.selects RX1 yX1_readId yX1_readId, Cond.code yX1_readId cX1_readId 4 (some .int), Cond.methodLink RX1 105 yX8_at, Cond.instanceMethod yX8_at]
def wsX9_readElements_r4 : List Cond := [Cond.selects RX8 yX8_at yX8_at, Cond.code yX8_at cX8_at 2 (some .int), Cond.fieldLink RX8 21 "StreamRemuxer$Row" "words" "[I", Cond.methodLink RX1 111 yX1_markedWidth, Cond.static yX1_markedWidth, Cond.code yX1_markedWidth cX1_markedWidth 2 (some .int), Cond.methodLink RX1 143 yX8_highFirst, Cond.instanceMethod yX8_highFirst, Cond.selects RX8 yX8_highFirst yX8_highFirst, Cond.code yX8_highFirst cX8_highFirst 6 (some .long), Cond.methodLink RX8 40 yX8_at, Cond.methodLink RX1 68 yX1_closeLevel, Cond.instanceMethod yX1_closeLevel, Cond.selects RX1 yX1_closeLevel yX1_closeLevel, Cond.code yX1_closeLevel cX1_closeLevel 3 (some .int), Cond.methodLink RX1 92 yX1_lacksSome, Cond.static yX1_lacksSome, Cond.code yX1_lacksSome cX1_lacksSome 4 (some .boolean), Cond.constantLong RX1 134 (2), Cond.methodLink RX1 117 yX1_column, Cond.static yX1_column, Cond.code yX1_column cX1_column 3 (some .long), Cond.fieldLink RX1 130 "StreamRemuxer$ElementReader" "TOLD" "[J", Cond.methodLink RX1 99 yX1_rowOf]
def wsX9_readElements_r5 : List Cond := [Cond.static yX1_rowOf, Cond.code yX1_rowOf cX1_rowOf 5 (some .int), Cond.methodLink RX1 102 yX1_mayStand, Cond.static yX1_mayStand, Cond.code yX1_mayStand cX1_mayStand 2 (some .boolean), Cond.constant RX1 136 (408125543), Cond.constant RX1 141 (440786851), Cond.constant RX1 142 (374648427), Cond.methodLink RX1 137 yX1_isSeen, Cond.static yX1_isSeen, Cond.code yX1_isSeen cX1_isSeen 4 (some .boolean), Cond.methodLink RX1 114 yX1_readSize, Cond.instanceMethod yX1_readSize, Cond.selects RX1 yX1_readSize yX1_readSize, Cond.code yX1_readSize cX1_readSize 7 (some .int), Cond.constantLong RX1 156 (2147483647), Cond.methodLink RX1 150 yX1_sizeWidth, Cond.instanceMethod yX1_sizeWidth, Cond.selects RX1 yX1_sizeWidth yX1_sizeWidth, Cond.code yX1_sizeWidth cX1_sizeWidth 4 (some .int), Cond.methodLink RX1 153 yX1_sizeNumber, Cond.instanceMethod yX1_sizeNumber, Cond.selects RX1 yX1_sizeNumber yX1_sizeNumber, Cond.code yX1_sizeNumber cX1_sizeNumber 6 (some .long)]
def wsX9_readElements_r6 : List Cond := [Cond.methodLink RX1 146 yX0_highestSize, Cond.static yX0_highestSize, Cond.initialized RX0, Cond.code yX0_highestSize cX0_highestSize 1 (some .long), Cond.constantLong RX0 7 (2), Cond.methodLink RX1 121 yX1_readUint, Cond.instanceMethod yX1_readUint, Cond.selects RX1 yX1_readUint yX1_readUint, Cond.code yX1_readUint cX1_readUint 7 (some .int), Cond.constantLong RX1 158 (215), Cond.constantLong RX1 160 (231), Cond.methodLink RX1 124 yX1_isDocumentName, Cond.instanceMethod yX1_isDocumentName, Cond.selects RX1 yX1_isDocumentName yX1_isDocumentName, Cond.code yX1_isDocumentName cX1_isDocumentName 4 (some .boolean), Cond.methodLink RX1 164 yJ0_length_8abf5, Cond.instanceMethod yJ0_length_8abf5, Cond.selects RJ0 yJ0_length_8abf5 yJ0_length_8abf5, Cond.initialized RJ0, Cond.code yJ0_length_8abf5 cJ0_length_8abf5 1 (some .int), Cond.fieldLink RJ0 9 "java/lang/String" "value" "[B", Cond.methodLink RJ0 335 yJ0_coder_7d493, Cond.instanceMethod yJ0_coder_7d493, Cond.selects RJ0 yJ0_coder_7d493 yJ0_coder_7d493]
def wsX9_readElements_r7 : List Cond := [Cond.code yJ0_coder_7d493 cJ0_coder_7d493 1 (some .byte), Cond.fieldLink RJ0 38 "java/lang/String" "COMPACT_STRINGS" "Z", Cond.fieldLink RJ0 15 "java/lang/String" "coder" "B", Cond.methodLink RX1 170 yJ0_charAt_5068e, Cond.instanceMethod yJ0_charAt_5068e, Cond.selects RJ0 yJ0_charAt_5068e yJ0_charAt_5068e, Cond.code yJ0_charAt_5068e cJ0_charAt_5068e 2 (some .char), Cond.methodLink RJ0 492 yJ0_isLatin1_aae02, Cond.instanceMethod yJ0_isLatin1_aae02, Cond.selects RJ0 yJ0_isLatin1_aae02 yJ0_isLatin1_aae02, Cond.code yJ0_isLatin1_aae02 cJ0_isLatin1_aae02 1 (some .boolean), Cond.methodLink RJ0 495 yJ1_charAt_3b067, Cond.static yJ1_charAt_3b067, Cond.initialized RJ1, Cond.code yJ1_charAt_3b067 cJ1_charAt_3b067 2 (some .char), Cond.methodLink RJ1 9 yJ0_checkIndex_df160, Cond.static yJ0_checkIndex_df160, Cond.code yJ0_checkIndex_df160 cJ0_checkIndex_df160 2 none, Cond.fieldLink RJ0 1053 "jdk/internal/util/Preconditions" "SIOOBE_FORMATTER" "Ljava/util/function/BiFunction;", Cond.methodLink RJ0 1059 yJ3_checkIndex_8e157, Cond.static yJ3_checkIndex_8e157, Cond.initialized RJ3, Cond.code yJ3_checkIndex_8e157 cJ3_checkIndex_8e157 3 (some .int), Cond.methodLink RJ0 498 yJ2_charAt_3b067]
def wsX9_readElements_r8 : List Cond := [Cond.static yJ2_charAt_3b067, Cond.initialized RJ2, Cond.code yJ2_charAt_3b067 cJ2_charAt_3b067 2 (some .char), Cond.methodLink RJ2 67 yJ2_checkIndex_2214a, Cond.static yJ2_checkIndex_2214a, Cond.code yJ2_checkIndex_2214a cJ2_checkIndex_2214a 2 none, Cond.methodLink RJ2 48 yJ2_length_9d52b, Cond.static yJ2_length_9d52b, Cond.code yJ2_length_9d52b cJ2_length_9d52b 1 (some .int), Cond.methodLink RJ2 414 yJ0_checkIndex_df160, Cond.methodLink RJ2 71 yJ2_getChar_3b067, Cond.static yJ2_getChar_3b067, Cond.code yJ2_getChar_3b067 cJ2_getChar_3b067 2 (some .char), Cond.fieldLink RJ2 44 "java/lang/StringUTF16" "$assertionsDisabled" "Z", Cond.fieldLink RJ2 59 "java/lang/StringUTF16" "HI_BYTE_SHIFT" "I", Cond.fieldLink RJ2 63 "java/lang/StringUTF16" "LO_BYTE_SHIFT" "I", Cond.methodLink RX1 127 yX1_readBlock, Cond.instanceMethod yX1_readBlock, Cond.selects RX1 yX1_readBlock yX1_readBlock, Cond.code yX1_readBlock cX1_readBlock 11 (some .int), Cond.constantLong RX1 174 (1099511627775), Cond.fieldLink RX1 180 "StreamRemuxer$ElementReader" "lacingAt" "I", Cond.methodLink RX1 176 yX1_readLacing, Cond.instanceMethod yX1_readLacing]
def wsX9_readElements_r9 : List Cond := [Cond.selects RX1 yX1_readLacing yX1_readLacing, Cond.code yX1_readLacing cX1_readLacing 10 (some .int), Cond.fieldLink RX1 13 "StreamRemuxer$ElementReader" "lacedSizes" "[I", Cond.methodLink RX1 203 yX1_shareAlike, Cond.instanceMethod yX1_shareAlike, Cond.selects RX1 yX1_shareAlike yX1_shareAlike, Cond.code yX1_shareAlike cX1_shareAlike 4 (some .int), Cond.methodLink RX1 206 yX1_readSummedSize, Cond.instanceMethod yX1_readSummedSize, Cond.selects RX1 yX1_readSummedSize yX1_readSummedSize, Cond.code yX1_readSummedSize cX1_readSummedSize 5 (some .long), Cond.methodLink RX1 209 yX1_readSizeOrDifference, Cond.instanceMethod yX1_readSizeOrDifference, Cond.selects RX1 yX1_readSizeOrDifference yX1_readSizeOrDifference, Cond.code yX1_readSizeOrDifference cX1_readSizeOrDifference 6 (some .long), Cond.methodLink RX1 212 yX0_differenceShift, Cond.static yX0_differenceShift, Cond.code yX0_differenceShift cX0_differenceShift 1 (some .long), Cond.methodLink RX1 183 yX4_hasRoom, Cond.instanceMethod yX4_hasRoom, Cond.selects RX4 yX4_hasRoom yX4_hasRoom, Cond.code yX4_hasRoom cX4_hasRoom 3 (some .boolean), Cond.fieldLink RX4 61 "StreamRemuxer$Row" "length" "I", Cond.methodLink RX1 188 yX1_takePackets]
def wsX9_readElements_r10 : List Cond := [Cond.instanceMethod yX1_takePackets, Cond.selects RX1 yX1_takePackets yX1_takePackets, Cond.code yX1_takePackets cX1_takePackets 6 none, Cond.fieldLink RX1 192 "StreamRemuxer$PacketList" "bytes" "LStreamRemuxer$Row;", Cond.methodLink RX1 195 yX8_addPart, Cond.instanceMethod yX8_addPart, Cond.selects RX8 yX8_addPart yX8_addPart, Cond.code yX8_addPart cX8_addPart 5 none, Cond.methodLink RX8 36 yX8_add, Cond.instanceMethod yX8_add, Cond.selects RX8 yX8_add yX8_add, Cond.code yX8_add cX8_add 2 none, Cond.fieldLink RX8 15 "StreamRemuxer$Row" "most" "I", Cond.methodLink RX8 32 yX8_change, Cond.instanceMethod yX8_change, Cond.selects RX8 yX8_change yX8_change, Cond.code yX8_change cX8_change 4 (some .boolean), Cond.methodLink RX1 199 yX4_endPacket, Cond.instanceMethod yX4_endPacket, Cond.selects RX4 yX4_endPacket yX4_endPacket, Cond.code yX4_endPacket cX4_endPacket 3 none, Cond.fieldLink RX4 20 "StreamRemuxer$PacketList" "ends" "[I", Cond.fieldLink RX4 24 "StreamRemuxer$PacketList" "times" "[J", Cond.methodLink RX9 137 yX9_takeSpareList]
def wsX9_readElements_r11 : List Cond := [Cond.instanceMethod yX9_takeSpareList, Cond.selects RX9 yX9_takeSpareList yX9_takeSpareList, Cond.code yX9_takeSpareList cX9_takeSpareList 2 (some .int), Cond.fieldLink RX9 27 "StreamRemuxer" "list" "LStreamRemuxer$PacketList;", Cond.fieldLink RX9 102 "StreamRemuxer$PacketList" "packets" "I", Cond.methodLink RX9 99 yX8_empty]
def wsX9_readElements : List Cond := .code yX9_readElements cX9_readElements 2 (some .int) :: ((wsX9_readElements_r1 ++ (wsX9_readElements_r2 ++ (wsX9_readElements_r3 ++ (wsX9_readElements_r4 ++ (wsX9_readElements_r5 ++ (wsX9_readElements_r6 ++ (wsX9_readElements_r7 ++ (wsX9_readElements_r8 ++ (wsX9_readElements_r9 ++ (wsX9_readElements_r10 ++ wsX9_readElements_r11)))))))))) ++ wsX90 ++ wsX10 ++ wsX80 ++ wsX40 ++ wsX30)
def wsX9_wrong : List Cond := .code yX9_wrong cX9_wrong 2 (some .int) :: ([.fieldLink RX9 62 "StreamRemuxer" "fault" "I", .fieldLink RX9 66 "StreamRemuxer" "faultPlace" "I"] ++ wsX90)
def wsX9_turn : List Cond := .code yX9_turn cX9_turn 1 (some .int) :: ([.fieldLink RX9 14 "StreamRemuxer" "tape" "LStreamRemuxer$Row;", .fieldLink RX9 18 "StreamRemuxer" "outRow" "LStreamRemuxer$Row;", .fieldLink RX9 69 "StreamRemuxer$Row" "length" "I", .methodLink RX9 155 yX8_becomeLike, .instanceMethod yX8_becomeLike, .selects RX8 yX8_becomeLike yX8_becomeLike, .initialized RX8, .code yX8_becomeLike cX8_becomeLike 2 none, .fieldLink RX8 21 "StreamRemuxer$Row" "words" "[I", .methodLink RX8 44 Lib.Math.min.name, .static Lib.Math.min.name, .initialized "java/lang/Math", .code Lib.Math.min.name Lib.Math.min.code 2 (some .int), .methodLink RX8 47 arraycopyName, .native arraycopyName, .static arraycopyName, .initialized "java/lang/System", .fieldLink RX8 25 "StreamRemuxer$Row" "length" "I", .fieldLink RX8 15 "StreamRemuxer$Row" "most" "I", .fieldLink RX8 28 "StreamRemuxer$Row" "overfull" "Z"] ++ wsX90 ++ wsX80)
def wsX9_count : List Cond := .code yX9_count cX9_count 2 (some .int) :: ([.fieldLink RX9 27 "StreamRemuxer" "list" "LStreamRemuxer$PacketList;", .fieldLink RX9 102 "StreamRemuxer$PacketList" "packets" "I", .fieldLink RX9 88 "StreamRemuxer$PacketList" "bytes" "LStreamRemuxer$Row;", .fieldLink RX9 69 "StreamRemuxer$Row" "length" "I", .fieldLink RX9 18 "StreamRemuxer" "outRow" "LStreamRemuxer$Row;", .fieldLink RX9 14 "StreamRemuxer" "tape" "LStreamRemuxer$Row;", .fieldLink RX9 134 "StreamRemuxer" "pagesRead" "I", .fieldLink RX9 146 "StreamRemuxer" "clustersRead" "I", .fieldLink RX9 152 "StreamRemuxer" "blocksRead" "I"] ++ wsX90 ++ wsX40 ++ wsX80)
def wsX9_size : List Cond := .code yX9_size cX9_size 2 (some .int) :: ([.fieldLink RX9 27 "StreamRemuxer" "list" "LStreamRemuxer$PacketList;", .methodLink RX9 159 yX4_bytesOf, .instanceMethod yX4_bytesOf, .selects RX4 yX4_bytesOf yX4_bytesOf, .initialized RX4, .code yX4_bytesOf cX4_bytesOf 2 (some .int), .fieldLink RX4 20 "StreamRemuxer$PacketList" "ends" "[I", .methodLink RX4 35 yX4_holds, .instanceMethod yX4_holds, .selects RX4 yX4_holds yX4_holds, .code yX4_holds cX4_holds 2 (some .boolean), .fieldLink RX4 28 "StreamRemuxer$PacketList" "packets" "I", .methodLink RX4 39 yX4_beginOf, .instanceMethod yX4_beginOf, .selects RX4 yX4_beginOf yX4_beginOf, .code yX4_beginOf cX4_beginOf 2 (some .int)] ++ wsX90 ++ wsX40)
def wsX9_time : List Cond := .code yX9_time cX9_time 2 (some .long) :: ([.fieldLink RX9 27 "StreamRemuxer" "list" "LStreamRemuxer$PacketList;", .methodLink RX9 163 yX4_timeOf, .instanceMethod yX4_timeOf, .selects RX4 yX4_timeOf yX4_timeOf, .initialized RX4, .code yX4_timeOf cX4_timeOf 2 (some .long), .fieldLink RX4 24 "StreamRemuxer$PacketList" "times" "[J", .constantLong RX4 49 (-1), .methodLink RX4 35 yX4_holds, .instanceMethod yX4_holds, .selects RX4 yX4_holds yX4_holds, .code yX4_holds cX4_holds 2 (some .boolean), .fieldLink RX4 28 "StreamRemuxer$PacketList" "packets" "I"] ++ wsX90 ++ wsX40)
def wsX9_octet_r1 : List Cond := [Cond.fieldLink RX9 27 "StreamRemuxer" "list" "LStreamRemuxer$PacketList;", Cond.methodLink RX9 167 yX4_byteOf, Cond.instanceMethod yX4_byteOf, Cond.selects RX4 yX4_byteOf yX4_byteOf, Cond.initialized RX4, Cond.code yX4_byteOf cX4_byteOf 3 (some .int), Cond.fieldLink RX4 14 "StreamRemuxer$PacketList" "bytes" "LStreamRemuxer$Row;", Cond.methodLink RX4 43 yX4_bytesOf, Cond.instanceMethod yX4_bytesOf, Cond.selects RX4 yX4_bytesOf yX4_bytesOf, Cond.code yX4_bytesOf cX4_bytesOf 2 (some .int), Cond.fieldLink RX4 20 "StreamRemuxer$PacketList" "ends" "[I", Cond.methodLink RX4 35 yX4_holds, Cond.instanceMethod yX4_holds, Cond.selects RX4 yX4_holds yX4_holds, Cond.code yX4_holds cX4_holds 2 (some .boolean), Cond.fieldLink RX4 28 "StreamRemuxer$PacketList" "packets" "I", Cond.methodLink RX4 39 yX4_beginOf, Cond.instanceMethod yX4_beginOf, Cond.selects RX4 yX4_beginOf yX4_beginOf, Cond.code yX4_beginOf cX4_beginOf 2 (some .int), Cond.methodLink RX4 46 yX8_at, Cond.instanceMethod yX8_at, Cond.selects RX8 yX8_at yX8_at]
def wsX9_octet_r2 : List Cond := [Cond.initialized RX8, Cond.code yX8_at cX8_at 2 (some .int), Cond.fieldLink RX8 25 "StreamRemuxer$Row" "length" "I", Cond.fieldLink RX8 21 "StreamRemuxer$Row" "words" "[I"]
def wsX9_octet : List Cond := .code yX9_octet cX9_octet 3 (some .int) :: ((wsX9_octet_r1 ++ wsX9_octet_r2) ++ wsX90 ++ wsX40 ++ wsX80)
def wsX9_out : List Cond := .code yX9_out cX9_out 2 (some .int) :: ([.fieldLink RX9 18 "StreamRemuxer" "outRow" "LStreamRemuxer$Row;", .methodLink RX9 171 yX8_at, .instanceMethod yX8_at, .selects RX8 yX8_at yX8_at, .initialized RX8, .code yX8_at cX8_at 2 (some .int), .fieldLink RX8 25 "StreamRemuxer$Row" "length" "I", .fieldLink RX8 21 "StreamRemuxer$Row" "words" "[I"] ++ wsX90 ++ wsX80)
def wsX9_patch : List Cond := .code yX9_patch cX9_patch 3 (some .boolean) :: ([.fieldLink RX9 14 "StreamRemuxer" "tape" "LStreamRemuxer$Row;", .methodLink RX9 174 yX8_change, .instanceMethod yX8_change, .selects RX8 yX8_change yX8_change, .initialized RX8, .code yX8_change cX8_change 4 (some .boolean), .fieldLink RX8 25 "StreamRemuxer$Row" "length" "I", .fieldLink RX8 21 "StreamRemuxer$Row" "words" "[I"] ++ wsX90 ++ wsX80)
def wsX9_sum_r1 : List Cond := [Cond.fieldLink RX9 14 "StreamRemuxer" "tape" "LStreamRemuxer$Row;", Cond.fieldLink RX9 69 "StreamRemuxer$Row" "length" "I", Cond.methodLink RX9 177 yX5_isMarked, Cond.static yX5_isMarked, Cond.initialized RX5, Cond.code yX5_isMarked cX5_isMarked 2 (some .boolean), Cond.constant RX5 17 (1332176723), Cond.methodLink RX5 9 yX8_highFirst, Cond.instanceMethod yX8_highFirst, Cond.selects RX8 yX8_highFirst yX8_highFirst, Cond.initialized RX8, Cond.code yX8_highFirst cX8_highFirst 6 (some .long), Cond.methodLink RX8 40 yX8_at, Cond.instanceMethod yX8_at, Cond.selects RX8 yX8_at yX8_at, Cond.code yX8_at cX8_at 2 (some .int), Cond.fieldLink RX8 25 "StreamRemuxer$Row" "length" "I", Cond.fieldLink RX8 21 "StreamRemuxer$Row" "words" "[I", Cond.methodLink RX9 181 yX5_endOf, Cond.static yX5_endOf, Cond.code yX5_endOf cX5_endOf 6 (some .int), Cond.methodLink RX5 18 yX8_at, Cond.methodLink RX9 185 yX5_makeSumRight, Cond.static yX5_makeSumRight]
def wsX9_sum_r2 : List Cond := [Cond.code yX5_makeSumRight cX5_makeSumRight 5 none, Cond.methodLink RX5 26 yX5_sumOf, Cond.static yX5_sumOf, Cond.code yX5_sumOf cX5_sumOf 7 (some .int), Cond.fieldLink RX5 22 "StreamRemuxer$PageForm" "FOUR_SHIFTS" "[I", Cond.methodLink RX5 30 yX8_change, Cond.instanceMethod yX8_change, Cond.selects RX8 yX8_change yX8_change, Cond.code yX8_change cX8_change 4 (some .boolean)]
def wsX9_sum : List Cond := .code yX9_sum cX9_sum 3 (some .boolean) :: ((wsX9_sum_r1 ++ wsX9_sum_r2) ++ wsX90 ++ wsX80)
def wsX10_init : List Cond := .code yX10_init cX10_init 1 none :: ([.methodLink RX10 1 objectInit, .instanceMethod objectInit, .code objectInit ⟨#[0xb1]⟩ 1 none, .arrayClass .byte, .fieldLink RX10 7 "StreamRemuxerModel" "tape" "[B", .fieldLink RX10 13 "StreamRemuxerModel" "out" "[B", .fieldLink RX10 16 "StreamRemuxerModel" "draft" "[B", .arrayClass .int, .fieldLink RX10 19 "StreamRemuxerModel" "size" "[I", .fieldLink RX10 23 "StreamRemuxerModel" "readSize" "[I", .arrayClass .long, .fieldLink RX10 26 "StreamRemuxerModel" "time" "[J", .fieldLink RX10 30 "StreamRemuxerModel" "readTime" "[J", .fieldLink RX10 33 "StreamRemuxerModel" "bytes" "[B", .fieldLink RX10 36 "StreamRemuxerModel" "readBytes" "[B", .fieldLink RX10 39 "StreamRemuxerModel" "toldAt" "I", .fieldLink RX10 43 "StreamRemuxerModel" "sizes" "[I", .fieldLink RX10 46 "StreamRemuxerModel" "headRow" "[B", .fieldLink RX10 49 "StreamRemuxerModel" "infoRow" "[B", .fieldLink RX10 52 "StreamRemuxerModel" "tracksRow" "[B", .fieldLink RX10 55 "StreamRemuxerModel" "codecRow" "[B"] ++ wsX100)
def wsX10_four : List Cond := .code yX10_four cX10_four 3 none :: ([.fieldLink RX10 7 "StreamRemuxerModel" "tape" "[B", .fieldLink RX10 58 "StreamRemuxerModel" "taped" "I"] ++ wsX100)
def wsX10_feed : List Cond := .code yX10_feed cX10_feed 6 (some .int) :: ([.fieldLink RX10 58 "StreamRemuxerModel" "taped" "I", .methodLink RX10 61 yX10_four, .instanceMethod yX10_four, .selects RX10 yX10_four yX10_four, .initialized RX10, .code yX10_four cX10_four 3 none, .fieldLink RX10 7 "StreamRemuxerModel" "tape" "[B"] ++ wsX100)
def wsX10_at : List Cond := .code yX10_at cX10_at 2 (some .int) :: ([.fieldLink RX10 7 "StreamRemuxerModel" "tape" "[B"] ++ wsX100)
def wsX10_packet : List Cond := .code yX10_packet cX10_packet 5 (some .int) :: ([.fieldLink RX10 58 "StreamRemuxerModel" "taped" "I", .constantLong RX10 65 (-1), .constantLong RX10 67 (1099511627775), .fieldLink RX10 69 "StreamRemuxerModel" "many" "I", .fieldLink RX10 72 "StreamRemuxerModel" "total" "I", .fieldLink RX10 33 "StreamRemuxerModel" "bytes" "[B", .fieldLink RX10 7 "StreamRemuxerModel" "tape" "[B", .fieldLink RX10 19 "StreamRemuxerModel" "size" "[I", .fieldLink RX10 26 "StreamRemuxerModel" "time" "[J"] ++ wsX100)
def wsX10_clear : List Cond := .code yX10_clear cX10_clear 2 (some .int) :: ([.fieldLink RX10 69 "StreamRemuxerModel" "many" "I", .fieldLink RX10 72 "StreamRemuxerModel" "total" "I"] ++ wsX100)
def wsX10_timeOf : List Cond := .code yX10_timeOf cX10_timeOf 3 (some .long) :: ([.fieldLink RX10 26 "StreamRemuxerModel" "time" "[J", .constantLong RX10 65 (-1)] ++ wsX100)
def wsX10_takeList : List Cond := .code yX10_takeList cX10_takeList 2 none :: ([.fieldLink RX10 75 "StreamRemuxerModel" "readMany" "I", .fieldLink RX10 69 "StreamRemuxerModel" "many" "I", .fieldLink RX10 78 "StreamRemuxerModel" "readTotal" "I", .fieldLink RX10 72 "StreamRemuxerModel" "total" "I", .fieldLink RX10 19 "StreamRemuxerModel" "size" "[I", .fieldLink RX10 23 "StreamRemuxerModel" "readSize" "[I", .fieldLink RX10 26 "StreamRemuxerModel" "time" "[J", .fieldLink RX10 30 "StreamRemuxerModel" "readTime" "[J", .fieldLink RX10 33 "StreamRemuxerModel" "bytes" "[B", .fieldLink RX10 36 "StreamRemuxerModel" "readBytes" "[B"] ++ wsX100)
def wsX10_put : List Cond := .code yX10_put cX10_put 2 none :: ([.fieldLink RX10 81 "StreamRemuxerModel" "drafted" "I", .fieldLink RX10 84 "StreamRemuxerModel" "full" "Z", .fieldLink RX10 16 "StreamRemuxerModel" "draft" "[B"] ++ wsX100)
def wsX10_putLow : List Cond := .code yX10_putLow cX10_putLow 5 none :: ([.methodLink RX10 88 yX10_put, .instanceMethod yX10_put, .selects RX10 yX10_put yX10_put, .initialized RX10, .code yX10_put cX10_put 2 none, .fieldLink RX10 81 "StreamRemuxerModel" "drafted" "I", .fieldLink RX10 84 "StreamRemuxerModel" "full" "Z", .fieldLink RX10 16 "StreamRemuxerModel" "draft" "[B"] ++ wsX100)
def wsX10_putHigh : List Cond := .code yX10_putHigh cX10_putHigh 5 none :: ([.methodLink RX10 88 yX10_put, .instanceMethod yX10_put, .selects RX10 yX10_put yX10_put, .initialized RX10, .code yX10_put cX10_put 2 none, .fieldLink RX10 81 "StreamRemuxerModel" "drafted" "I", .fieldLink RX10 84 "StreamRemuxerModel" "full" "Z", .fieldLink RX10 16 "StreamRemuxerModel" "draft" "[B"] ++ wsX100)
def wsX10_putRow : List Cond := .code yX10_putRow cX10_putRow 3 none :: ([.methodLink RX10 88 yX10_put, .instanceMethod yX10_put, .selects RX10 yX10_put yX10_put, .initialized RX10, .code yX10_put cX10_put 2 none, .fieldLink RX10 81 "StreamRemuxerModel" "drafted" "I", .fieldLink RX10 84 "StreamRemuxerModel" "full" "Z", .fieldLink RX10 16 "StreamRemuxerModel" "draft" "[B"] ++ wsX100)
def wsX10_drawn : List Cond := .code yX10_drawn cX10_drawn 2 (some .int) :: ([.fieldLink RX10 84 "StreamRemuxerModel" "full" "Z", .fieldLink RX10 81 "StreamRemuxerModel" "drafted" "I", .fieldLink RX10 13 "StreamRemuxerModel" "out" "[B", .fieldLink RX10 16 "StreamRemuxerModel" "draft" "[B", .fieldLink RX10 91 "StreamRemuxerModel" "outMany" "I"] ++ wsX100)
def wsX10_sumOf : List Cond := .code yX10_sumOf cX10_sumOf 7 (some .int) :: ([.constant RX10 94 (79764919)])
def wsX10_putSum : List Cond := .code yX10_putSum cX10_putSum 5 none :: ([.methodLink RX10 95 yX10_sumOf, .static yX10_sumOf, .initialized RX10, .code yX10_sumOf cX10_sumOf 7 (some .int), .constant RX10 94 (79764919)])
def wsX10_segmentsFrom : List Cond := .code yX10_segmentsFrom cX10_segmentsFrom 8 none :: ([.fieldLink RX10 19 "StreamRemuxerModel" "size" "[I", .methodLink RX10 88 yX10_put, .instanceMethod yX10_put, .selects RX10 yX10_put yX10_put, .initialized RX10, .code yX10_put cX10_put 2 none, .fieldLink RX10 81 "StreamRemuxerModel" "drafted" "I", .fieldLink RX10 84 "StreamRemuxerModel" "full" "Z", .fieldLink RX10 16 "StreamRemuxerModel" "draft" "[B"] ++ wsX100)
def wsX10_pages_r1 : List Cond := [Cond.fieldLink RX10 69 "StreamRemuxerModel" "many" "I", Cond.constantLong RX10 65 (-1), Cond.fieldLink RX10 26 "StreamRemuxerModel" "time" "[J", Cond.fieldLink RX10 81 "StreamRemuxerModel" "drafted" "I", Cond.fieldLink RX10 84 "StreamRemuxerModel" "full" "Z", Cond.fieldLink RX10 19 "StreamRemuxerModel" "size" "[I", Cond.fieldLink RX10 33 "StreamRemuxerModel" "bytes" "[B", Cond.fieldLink RX10 16 "StreamRemuxerModel" "draft" "[B", Cond.methodLink RX10 88 yX10_put, Cond.instanceMethod yX10_put, Cond.selects RX10 yX10_put yX10_put, Cond.initialized RX10, Cond.code yX10_put cX10_put 2 none, Cond.methodLink RX10 99 yX10_timeOf, Cond.instanceMethod yX10_timeOf, Cond.selects RX10 yX10_timeOf yX10_timeOf, Cond.code yX10_timeOf cX10_timeOf 3 (some .long), Cond.methodLink RX10 103 yX10_putLow, Cond.instanceMethod yX10_putLow, Cond.selects RX10 yX10_putLow yX10_putLow, Cond.code yX10_putLow cX10_putLow 5 none, Cond.methodLink RX10 107 yX10_segmentsFrom, Cond.instanceMethod yX10_segmentsFrom, Cond.selects RX10 yX10_segmentsFrom yX10_segmentsFrom]
def wsX10_pages_r2 : List Cond := [Cond.code yX10_segmentsFrom cX10_segmentsFrom 8 none, Cond.methodLink RX10 111 yX10_putSum, Cond.static yX10_putSum, Cond.code yX10_putSum cX10_putSum 5 none, Cond.methodLink RX10 95 yX10_sumOf, Cond.static yX10_sumOf, Cond.code yX10_sumOf cX10_sumOf 7 (some .int), Cond.constant RX10 94 (79764919), Cond.methodLink RX10 115 yX10_drawn, Cond.instanceMethod yX10_drawn, Cond.selects RX10 yX10_drawn yX10_drawn, Cond.code yX10_drawn cX10_drawn 2 (some .int), Cond.fieldLink RX10 13 "StreamRemuxerModel" "out" "[B", Cond.fieldLink RX10 91 "StreamRemuxerModel" "outMany" "I"]
def wsX10_pages : List Cond := .code yX10_pages cX10_pages 20 (some .int) :: ((wsX10_pages_r1 ++ wsX10_pages_r2) ++ wsX100)
def wsX10_fails : List Cond := .code yX10_fails cX10_fails 3 (some .boolean) :: ([.fieldLink RX10 119 "StreamRemuxerModel" "fault" "I", .fieldLink RX10 122 "StreamRemuxerModel" "faultAt" "I"] ++ wsX100)
def wsX10_low : List Cond := .code yX10_low cX10_low 6 (some .long) :: ([.methodLink RX10 125 yX10_at, .instanceMethod yX10_at, .selects RX10 yX10_at yX10_at, .initialized RX10, .code yX10_at cX10_at 2 (some .int), .fieldLink RX10 7 "StreamRemuxerModel" "tape" "[B"] ++ wsX100)
def wsX10_begin : List Cond := .code yX10_begin cX10_begin 1 none :: ([.fieldLink RX10 119 "StreamRemuxerModel" "fault" "I", .fieldLink RX10 122 "StreamRemuxerModel" "faultAt" "I", .fieldLink RX10 75 "StreamRemuxerModel" "readMany" "I", .fieldLink RX10 78 "StreamRemuxerModel" "readTotal" "I"] ++ wsX100)
def wsX10_ends : List Cond := .code yX10_ends cX10_ends 2 (some .int) :: ([.fieldLink RX10 119 "StreamRemuxerModel" "fault" "I", .fieldLink RX10 129 "StreamRemuxerModel" "told" "I", .fieldLink RX10 122 "StreamRemuxerModel" "faultAt" "I", .fieldLink RX10 39 "StreamRemuxerModel" "toldAt" "I", .fieldLink RX10 69 "StreamRemuxerModel" "many" "I", .methodLink RX10 132 yX10_takeList, .instanceMethod yX10_takeList, .selects RX10 yX10_takeList yX10_takeList, .initialized RX10, .code yX10_takeList cX10_takeList 2 none, .fieldLink RX10 75 "StreamRemuxerModel" "readMany" "I", .fieldLink RX10 78 "StreamRemuxerModel" "readTotal" "I", .fieldLink RX10 72 "StreamRemuxerModel" "total" "I", .fieldLink RX10 19 "StreamRemuxerModel" "size" "[I", .fieldLink RX10 23 "StreamRemuxerModel" "readSize" "[I", .fieldLink RX10 26 "StreamRemuxerModel" "time" "[J", .fieldLink RX10 30 "StreamRemuxerModel" "readTime" "[J", .fieldLink RX10 33 "StreamRemuxerModel" "bytes" "[B", .fieldLink RX10 36 "StreamRemuxerModel" "readBytes" "[B"] ++ wsX100)
def wsX10_isMark : List Cond := .code yX10_isMark cX10_isMark 2 (some .boolean) :: ([.methodLink RX10 125 yX10_at, .instanceMethod yX10_at, .selects RX10 yX10_at yX10_at, .initialized RX10, .code yX10_at cX10_at 2 (some .int), .fieldLink RX10 7 "StreamRemuxerModel" "tape" "[B"] ++ wsX100)
def wsX10_lengthOf : List Cond := .code yX10_lengthOf cX10_lengthOf 4 (some .int) :: ([.methodLink RX10 125 yX10_at, .instanceMethod yX10_at, .selects RX10 yX10_at yX10_at, .initialized RX10, .code yX10_at cX10_at 2 (some .int), .fieldLink RX10 7 "StreamRemuxerModel" "tape" "[B"] ++ wsX100)
def wsX10_isWhole : List Cond := .code yX10_isWhole cX10_isWhole 3 (some .boolean) :: ([.methodLink RX10 125 yX10_at, .instanceMethod yX10_at, .selects RX10 yX10_at yX10_at, .initialized RX10, .code yX10_at cX10_at 2 (some .int), .fieldLink RX10 7 "StreamRemuxerModel" "tape" "[B", .methodLink RX10 158 yX10_lengthOf, .instanceMethod yX10_lengthOf, .selects RX10 yX10_lengthOf yX10_lengthOf, .code yX10_lengthOf cX10_lengthOf 4 (some .int)] ++ wsX100)
def wsX10_packets_r1 : List Cond := [Cond.constantLong RX10 67 (1099511627775), Cond.fieldLink RX10 147 "StreamRemuxerModel" "lastTime" "J", Cond.constantLong RX10 65 (-1), Cond.fieldLink RX10 141 "StreamRemuxerModel" "openBytes" "I", Cond.fieldLink RX10 75 "StreamRemuxerModel" "readMany" "I", Cond.fieldLink RX10 78 "StreamRemuxerModel" "readTotal" "I", Cond.fieldLink RX10 36 "StreamRemuxerModel" "readBytes" "[B", Cond.fieldLink RX10 7 "StreamRemuxerModel" "tape" "[B", Cond.fieldLink RX10 23 "StreamRemuxerModel" "readSize" "[I", Cond.fieldLink RX10 30 "StreamRemuxerModel" "readTime" "[J", Cond.fieldLink RX10 181 "StreamRemuxerModel" "serial" "I", Cond.fieldLink RX10 178 "StreamRemuxerModel" "lastNumber" "I", Cond.fieldLink RX10 144 "StreamRemuxerModel" "isLast" "Z", Cond.fieldLink RX10 138 "StreamRemuxerModel" "pages" "I", Cond.methodLink RX10 125 yX10_at, Cond.instanceMethod yX10_at, Cond.selects RX10 yX10_at yX10_at, Cond.initialized RX10, Cond.code yX10_at cX10_at 2 (some .int), Cond.methodLink RX10 174 yX10_low, Cond.instanceMethod yX10_low, Cond.selects RX10 yX10_low yX10_low, Cond.code yX10_low cX10_low 6 (some .long), Cond.methodLink RX10 151 yX10_fails]
def wsX10_packets_r2 : List Cond := [Cond.instanceMethod yX10_fails, Cond.selects RX10 yX10_fails yX10_fails, Cond.code yX10_fails cX10_fails 3 (some .boolean), Cond.fieldLink RX10 119 "StreamRemuxerModel" "fault" "I", Cond.fieldLink RX10 122 "StreamRemuxerModel" "faultAt" "I"]
def wsX10_packets : List Cond := .code yX10_packets cX10_packets 16 (some .boolean) :: ((wsX10_packets_r1 ++ wsX10_packets_r2) ++ wsX100)
def wsX10_page_r1 : List Cond := [Cond.fieldLink RX10 7 "StreamRemuxerModel" "tape" "[B", Cond.fieldLink RX10 138 "StreamRemuxerModel" "pages" "I", Cond.fieldLink RX10 144 "StreamRemuxerModel" "isLast" "Z", Cond.fieldLink RX10 178 "StreamRemuxerModel" "lastNumber" "I", Cond.fieldLink RX10 181 "StreamRemuxerModel" "serial" "I", Cond.fieldLink RX10 141 "StreamRemuxerModel" "openBytes" "I", Cond.methodLink RX10 151 yX10_fails, Cond.instanceMethod yX10_fails, Cond.selects RX10 yX10_fails yX10_fails, Cond.initialized RX10, Cond.code yX10_fails cX10_fails 3 (some .boolean), Cond.fieldLink RX10 119 "StreamRemuxerModel" "fault" "I", Cond.fieldLink RX10 122 "StreamRemuxerModel" "faultAt" "I", Cond.methodLink RX10 167 yX10_isMark, Cond.instanceMethod yX10_isMark, Cond.selects RX10 yX10_isMark yX10_isMark, Cond.code yX10_isMark cX10_isMark 2 (some .boolean), Cond.methodLink RX10 125 yX10_at, Cond.instanceMethod yX10_at, Cond.selects RX10 yX10_at yX10_at, Cond.code yX10_at cX10_at 2 (some .int), Cond.methodLink RX10 171 yX10_isWhole, Cond.instanceMethod yX10_isWhole, Cond.selects RX10 yX10_isWhole yX10_isWhole]
def wsX10_page_r2 : List Cond := [Cond.code yX10_isWhole cX10_isWhole 3 (some .boolean), Cond.methodLink RX10 158 yX10_lengthOf, Cond.instanceMethod yX10_lengthOf, Cond.selects RX10 yX10_lengthOf yX10_lengthOf, Cond.code yX10_lengthOf cX10_lengthOf 4 (some .int), Cond.methodLink RX10 174 yX10_low, Cond.instanceMethod yX10_low, Cond.selects RX10 yX10_low yX10_low, Cond.code yX10_low cX10_low 6 (some .long), Cond.methodLink RX10 95 yX10_sumOf, Cond.static yX10_sumOf, Cond.code yX10_sumOf cX10_sumOf 7 (some .int), Cond.constant RX10 94 (79764919), Cond.methodLink RX10 184 yX10_packets, Cond.instanceMethod yX10_packets, Cond.selects RX10 yX10_packets yX10_packets, Cond.code yX10_packets cX10_packets 16 (some .boolean), Cond.constantLong RX10 67 (1099511627775), Cond.fieldLink RX10 147 "StreamRemuxerModel" "lastTime" "J", Cond.constantLong RX10 65 (-1), Cond.fieldLink RX10 75 "StreamRemuxerModel" "readMany" "I", Cond.fieldLink RX10 78 "StreamRemuxerModel" "readTotal" "I", Cond.fieldLink RX10 36 "StreamRemuxerModel" "readBytes" "[B", Cond.fieldLink RX10 23 "StreamRemuxerModel" "readSize" "[I"]
def wsX10_page_r3 : List Cond := [Cond.fieldLink RX10 30 "StreamRemuxerModel" "readTime" "[J"]
def wsX10_page : List Cond := .code yX10_page cX10_page 8 (some .boolean) :: ((wsX10_page_r1 ++ (wsX10_page_r2 ++ wsX10_page_r3)) ++ wsX100)
def wsX10_readPages_r1 : List Cond := [Cond.fieldLink RX10 58 "StreamRemuxerModel" "taped" "I", Cond.fieldLink RX10 138 "StreamRemuxerModel" "pages" "I", Cond.fieldLink RX10 141 "StreamRemuxerModel" "openBytes" "I", Cond.fieldLink RX10 144 "StreamRemuxerModel" "isLast" "Z", Cond.constantLong RX10 65 (-1), Cond.fieldLink RX10 147 "StreamRemuxerModel" "lastTime" "J", Cond.fieldLink RX10 119 "StreamRemuxerModel" "fault" "I", Cond.fieldLink RX10 161 "StreamRemuxerModel" "pageCount" "I", Cond.methodLink RX10 135 yX10_begin, Cond.instanceMethod yX10_begin, Cond.selects RX10 yX10_begin yX10_begin, Cond.initialized RX10, Cond.code yX10_begin cX10_begin 1 none, Cond.fieldLink RX10 122 "StreamRemuxerModel" "faultAt" "I", Cond.fieldLink RX10 75 "StreamRemuxerModel" "readMany" "I", Cond.fieldLink RX10 78 "StreamRemuxerModel" "readTotal" "I", Cond.methodLink RX10 151 yX10_fails, Cond.instanceMethod yX10_fails, Cond.selects RX10 yX10_fails yX10_fails, Cond.code yX10_fails cX10_fails 3 (some .boolean), Cond.methodLink RX10 155 yX10_page, Cond.instanceMethod yX10_page, Cond.selects RX10 yX10_page yX10_page, Cond.code yX10_page cX10_page 8 (some .boolean)]
def wsX10_readPages_r2 : List Cond := [Cond.fieldLink RX10 7 "StreamRemuxerModel" "tape" "[B", Cond.fieldLink RX10 178 "StreamRemuxerModel" "lastNumber" "I", Cond.fieldLink RX10 181 "StreamRemuxerModel" "serial" "I", Cond.methodLink RX10 167 yX10_isMark, Cond.instanceMethod yX10_isMark, Cond.selects RX10 yX10_isMark yX10_isMark, Cond.code yX10_isMark cX10_isMark 2 (some .boolean), Cond.methodLink RX10 125 yX10_at, Cond.instanceMethod yX10_at, Cond.selects RX10 yX10_at yX10_at, Cond.code yX10_at cX10_at 2 (some .int), Cond.methodLink RX10 171 yX10_isWhole, Cond.instanceMethod yX10_isWhole, Cond.selects RX10 yX10_isWhole yX10_isWhole, Cond.code yX10_isWhole cX10_isWhole 3 (some .boolean), Cond.methodLink RX10 158 yX10_lengthOf, Cond.instanceMethod yX10_lengthOf, Cond.selects RX10 yX10_lengthOf yX10_lengthOf, Cond.code yX10_lengthOf cX10_lengthOf 4 (some .int), Cond.methodLink RX10 174 yX10_low, Cond.instanceMethod yX10_low, Cond.selects RX10 yX10_low yX10_low, Cond.code yX10_low cX10_low 6 (some .long), Cond.methodLink RX10 95 yX10_sumOf]
def wsX10_readPages_r3 : List Cond := [Cond.static yX10_sumOf, Cond.code yX10_sumOf cX10_sumOf 7 (some .int), Cond.constant RX10 94 (79764919), Cond.methodLink RX10 184 yX10_packets, Cond.instanceMethod yX10_packets, Cond.selects RX10 yX10_packets yX10_packets, Cond.code yX10_packets cX10_packets 16 (some .boolean), Cond.constantLong RX10 67 (1099511627775), Cond.fieldLink RX10 36 "StreamRemuxerModel" "readBytes" "[B", Cond.fieldLink RX10 23 "StreamRemuxerModel" "readSize" "[I", Cond.fieldLink RX10 30 "StreamRemuxerModel" "readTime" "[J", Cond.methodLink RX10 164 yX10_ends, Cond.instanceMethod yX10_ends, Cond.selects RX10 yX10_ends yX10_ends, Cond.code yX10_ends cX10_ends 2 (some .int), Cond.fieldLink RX10 129 "StreamRemuxerModel" "told" "I", Cond.fieldLink RX10 39 "StreamRemuxerModel" "toldAt" "I", Cond.fieldLink RX10 69 "StreamRemuxerModel" "many" "I", Cond.methodLink RX10 132 yX10_takeList, Cond.instanceMethod yX10_takeList, Cond.selects RX10 yX10_takeList yX10_takeList, Cond.code yX10_takeList cX10_takeList 2 none, Cond.fieldLink RX10 72 "StreamRemuxerModel" "total" "I", Cond.fieldLink RX10 19 "StreamRemuxerModel" "size" "[I"]
def wsX10_readPages_r4 : List Cond := [Cond.fieldLink RX10 26 "StreamRemuxerModel" "time" "[J", Cond.fieldLink RX10 33 "StreamRemuxerModel" "bytes" "[B"]
def wsX10_readPages : List Cond := .code yX10_readPages cX10_readPages 4 (some .int) :: ((wsX10_readPages_r1 ++ (wsX10_readPages_r2 ++ (wsX10_readPages_r3 ++ wsX10_readPages_r4))) ++ wsX100)
def wsX10_lengthBy : List Cond := .code yX10_lengthBy cX10_lengthBy 3 (some .int) :: ([])
def wsX10_sizeAt : List Cond := .code yX10_sizeAt cX10_sizeAt 6 (some .long) :: ([.constantLong RX10 65 (-1), .methodLink RX10 125 yX10_at, .instanceMethod yX10_at, .selects RX10 yX10_at yX10_at, .initialized RX10, .code yX10_at cX10_at 2 (some .int), .fieldLink RX10 7 "StreamRemuxerModel" "tape" "[B"] ++ wsX100)
def wsX10_bitOfHead : List Cond := .code yX10_bitOfHead cX10_bitOfHead 1 (some .int) :: ([.fieldLink RX10 191 "StreamRemuxerModel" "id" "I"] ++ wsX100)
def wsX10_mayStand : List Cond := .code yX10_mayStand cX10_mayStand 3 (some .boolean) :: ([.fieldLink RX10 191 "StreamRemuxerModel" "id" "I", .constant RX10 213 (440786851), .constant RX10 206 (408125543), .constant RX10 207 (524531317), .constant RX10 217 (357149030), .constant RX10 218 (374648427), .constant RX10 219 (2807729), .methodLink RX10 214 yX10_bitOfHead, .instanceMethod yX10_bitOfHead, .selects RX10 yX10_bitOfHead yX10_bitOfHead, .initialized RX10, .code yX10_bitOfHead cX10_bitOfHead 1 (some .int)] ++ wsX100)
def wsX10_name_r1 : List Cond := [Cond.fieldLink RX10 191 "StreamRemuxerModel" "id" "I", Cond.fieldLink RX10 194 "StreamRemuxerModel" "from" "I", Cond.methodLink RX10 125 yX10_at, Cond.instanceMethod yX10_at, Cond.selects RX10 yX10_at yX10_at, Cond.initialized RX10, Cond.code yX10_at cX10_at 2 (some .int), Cond.fieldLink RX10 7 "StreamRemuxerModel" "tape" "[B", Cond.methodLink RX10 151 yX10_fails, Cond.instanceMethod yX10_fails, Cond.selects RX10 yX10_fails yX10_fails, Cond.code yX10_fails cX10_fails 3 (some .boolean), Cond.fieldLink RX10 119 "StreamRemuxerModel" "fault" "I", Cond.fieldLink RX10 122 "StreamRemuxerModel" "faultAt" "I", Cond.methodLink RX10 188 yX10_lengthBy, Cond.static yX10_lengthBy, Cond.code yX10_lengthBy cX10_lengthBy 3 (some .int), Cond.methodLink RX10 197 yX10_mayStand, Cond.instanceMethod yX10_mayStand, Cond.selects RX10 yX10_mayStand yX10_mayStand, Cond.code yX10_mayStand cX10_mayStand 3 (some .boolean), Cond.constant RX10 213 (440786851), Cond.constant RX10 206 (408125543), Cond.constant RX10 207 (524531317)]
def wsX10_name_r2 : List Cond := [Cond.constant RX10 217 (357149030), Cond.constant RX10 218 (374648427), Cond.constant RX10 219 (2807729), Cond.methodLink RX10 214 yX10_bitOfHead, Cond.instanceMethod yX10_bitOfHead, Cond.selects RX10 yX10_bitOfHead yX10_bitOfHead, Cond.code yX10_bitOfHead cX10_bitOfHead 1 (some .int)]
def wsX10_name : List Cond := .code yX10_name cX10_name 8 (some .boolean) :: ((wsX10_name_r1 ++ wsX10_name_r2) ++ wsX100)
def wsX10_head_r1 : List Cond := [Cond.fieldLink RX10 194 "StreamRemuxerModel" "from" "I", Cond.constantLong RX10 65 (-1), Cond.fieldLink RX10 203 "StreamRemuxerModel" "unknown" "Z", Cond.fieldLink RX10 191 "StreamRemuxerModel" "id" "I", Cond.constant RX10 206 (408125543), Cond.constant RX10 207 (524531317), Cond.constantLong RX10 208 (2147483647), Cond.fieldLink RX10 210 "StreamRemuxerModel" "to" "I", Cond.methodLink RX10 151 yX10_fails, Cond.instanceMethod yX10_fails, Cond.selects RX10 yX10_fails yX10_fails, Cond.initialized RX10, Cond.code yX10_fails cX10_fails 3 (some .boolean), Cond.fieldLink RX10 119 "StreamRemuxerModel" "fault" "I", Cond.fieldLink RX10 122 "StreamRemuxerModel" "faultAt" "I", Cond.methodLink RX10 125 yX10_at, Cond.instanceMethod yX10_at, Cond.selects RX10 yX10_at yX10_at, Cond.code yX10_at cX10_at 2 (some .int), Cond.fieldLink RX10 7 "StreamRemuxerModel" "tape" "[B", Cond.methodLink RX10 188 yX10_lengthBy, Cond.static yX10_lengthBy, Cond.code yX10_lengthBy cX10_lengthBy 3 (some .int), Cond.methodLink RX10 200 yX10_sizeAt]
def wsX10_head_r2 : List Cond := [Cond.instanceMethod yX10_sizeAt, Cond.selects RX10 yX10_sizeAt yX10_sizeAt, Cond.code yX10_sizeAt cX10_sizeAt 6 (some .long)]
def wsX10_head : List Cond := .code yX10_head cX10_head 8 (some .boolean) :: ((wsX10_head_r1 ++ wsX10_head_r2) ++ wsX100)
def wsX10_bit : List Cond := .code yX10_bit cX10_bit 2 (some .int) :: ([.fieldLink RX10 191 "StreamRemuxerModel" "id" "I", .constant RX10 213 (440786851), .constant RX10 206 (408125543), .constant RX10 217 (357149030), .constant RX10 218 (374648427), .constant RX10 219 (2807729), .methodLink RX10 214 yX10_bitOfHead, .instanceMethod yX10_bitOfHead, .selects RX10 yX10_bitOfHead yX10_bitOfHead, .initialized RX10, .code yX10_bitOfHead cX10_bitOfHead 1 (some .int)] ++ wsX100)
def wsX10_isCluster : List Cond := .code yX10_isCluster cX10_isCluster 3 (some .boolean) :: ([.methodLink RX10 125 yX10_at, .instanceMethod yX10_at, .selects RX10 yX10_at yX10_at, .initialized RX10, .code yX10_at cX10_at 2 (some .int), .fieldLink RX10 7 "StreamRemuxerModel" "tape" "[B"] ++ wsX100)
def wsX10_sortOf : List Cond := .code yX10_sortOf cX10_sortOf 1 (some .int) :: ([.fieldLink RX10 191 "StreamRemuxerModel" "id" "I"] ++ wsX100)
def wsX10_uint : List Cond := .code yX10_uint cX10_uint 4 (some .long) :: ([.fieldLink RX10 210 "StreamRemuxerModel" "to" "I", .fieldLink RX10 194 "StreamRemuxerModel" "from" "I", .constantLong RX10 65 (-1), .constantLong RX10 256 (18014398509481984), .methodLink RX10 125 yX10_at, .instanceMethod yX10_at, .selects RX10 yX10_at yX10_at, .initialized RX10, .code yX10_at cX10_at 2 (some .int), .fieldLink RX10 7 "StreamRemuxerModel" "tape" "[B"] ++ wsX100)
def wsX10_isWithin : List Cond := .code yX10_isWithin cX10_isWithin 8 (some .boolean) :: ([.methodLink RX10 258 yX10_uint, .instanceMethod yX10_uint, .selects RX10 yX10_uint yX10_uint, .initialized RX10, .code yX10_uint cX10_uint 4 (some .long), .fieldLink RX10 210 "StreamRemuxerModel" "to" "I", .fieldLink RX10 194 "StreamRemuxerModel" "from" "I", .constantLong RX10 65 (-1), .constantLong RX10 256 (18014398509481984), .methodLink RX10 125 yX10_at, .instanceMethod yX10_at, .selects RX10 yX10_at yX10_at, .code yX10_at cX10_at 2 (some .int), .fieldLink RX10 7 "StreamRemuxerModel" "tape" "[B", .methodLink RX10 151 yX10_fails, .instanceMethod yX10_fails, .selects RX10 yX10_fails yX10_fails, .code yX10_fails cX10_fails 3 (some .boolean), .fieldLink RX10 119 "StreamRemuxerModel" "fault" "I", .fieldLink RX10 122 "StreamRemuxerModel" "faultAt" "I"] ++ wsX100)
def wsX10_isMatroska : List Cond := .code yX10_isMatroska cX10_isMatroska 4 (some .boolean) :: ([.fieldLink RX10 194 "StreamRemuxerModel" "from" "I", .fieldLink RX10 210 "StreamRemuxerModel" "to" "I", .constantLong RX10 289 (7881708857720007521), .methodLink RX10 125 yX10_at, .instanceMethod yX10_at, .selects RX10 yX10_at yX10_at, .initialized RX10, .code yX10_at cX10_at 2 (some .int), .fieldLink RX10 7 "StreamRemuxerModel" "tape" "[B"] ++ wsX100)
def wsX10_laced : List Cond := .code yX10_laced cX10_laced 9 (some .int) :: ([.fieldLink RX10 210 "StreamRemuxerModel" "to" "I", .fieldLink RX10 43 "StreamRemuxerModel" "sizes" "[I", .constantLong RX10 65 (-1), .constantLong RX10 298 (6000), .methodLink RX10 125 yX10_at, .instanceMethod yX10_at, .selects RX10 yX10_at yX10_at, .initialized RX10, .code yX10_at cX10_at 2 (some .int), .fieldLink RX10 7 "StreamRemuxerModel" "tape" "[B", .methodLink RX10 188 yX10_lengthBy, .static yX10_lengthBy, .code yX10_lengthBy cX10_lengthBy 3 (some .int), .methodLink RX10 200 yX10_sizeAt, .instanceMethod yX10_sizeAt, .selects RX10 yX10_sizeAt yX10_sizeAt, .code yX10_sizeAt cX10_sizeAt 6 (some .long)] ++ wsX100)
def wsX10_block_r1 : List Cond := [Cond.fieldLink RX10 240 "StreamRemuxerModel" "hasTime" "Z", Cond.fieldLink RX10 291 "StreamRemuxerModel" "blocks" "I", Cond.fieldLink RX10 194 "StreamRemuxerModel" "from" "I", Cond.fieldLink RX10 210 "StreamRemuxerModel" "to" "I", Cond.fieldLink RX10 276 "StreamRemuxerModel" "number" "I", Cond.fieldLink RX10 283 "StreamRemuxerModel" "clusterTime" "J", Cond.fieldLink RX10 191 "StreamRemuxerModel" "id" "I", Cond.constantLong RX10 67 (1099511627775), Cond.fieldLink RX10 43 "StreamRemuxerModel" "sizes" "[I", Cond.fieldLink RX10 75 "StreamRemuxerModel" "readMany" "I", Cond.fieldLink RX10 78 "StreamRemuxerModel" "readTotal" "I", Cond.fieldLink RX10 23 "StreamRemuxerModel" "readSize" "[I", Cond.fieldLink RX10 30 "StreamRemuxerModel" "readTime" "[J", Cond.constantLong RX10 65 (-1), Cond.fieldLink RX10 36 "StreamRemuxerModel" "readBytes" "[B", Cond.fieldLink RX10 7 "StreamRemuxerModel" "tape" "[B", Cond.methodLink RX10 151 yX10_fails, Cond.instanceMethod yX10_fails, Cond.selects RX10 yX10_fails yX10_fails, Cond.initialized RX10, Cond.code yX10_fails cX10_fails 3 (some .boolean), Cond.fieldLink RX10 119 "StreamRemuxerModel" "fault" "I", Cond.fieldLink RX10 122 "StreamRemuxerModel" "faultAt" "I", Cond.methodLink RX10 125 yX10_at]
def wsX10_block_r2 : List Cond := [Cond.instanceMethod yX10_at, Cond.selects RX10 yX10_at yX10_at, Cond.code yX10_at cX10_at 2 (some .int), Cond.methodLink RX10 188 yX10_lengthBy, Cond.static yX10_lengthBy, Cond.code yX10_lengthBy cX10_lengthBy 3 (some .int), Cond.methodLink RX10 200 yX10_sizeAt, Cond.instanceMethod yX10_sizeAt, Cond.selects RX10 yX10_sizeAt yX10_sizeAt, Cond.code yX10_sizeAt cX10_sizeAt 6 (some .long), Cond.methodLink RX10 294 yX10_laced, Cond.instanceMethod yX10_laced, Cond.selects RX10 yX10_laced yX10_laced, Cond.code yX10_laced cX10_laced 9 (some .int), Cond.constantLong RX10 298 (6000)]
def wsX10_block : List Cond := .code yX10_block cX10_block 13 (some .boolean) :: ((wsX10_block_r1 ++ wsX10_block_r2) ++ wsX100)
def wsX10_plain_r1 : List Cond := [Cond.constantLong RX10 262 (4611686018427387903), Cond.fieldLink RX10 191 "StreamRemuxerModel" "id" "I", Cond.constantLong RX10 268 (4), Cond.constantLong RX10 270 (8), Cond.fieldLink RX10 276 "StreamRemuxerModel" "number" "I", Cond.constantLong RX10 279 (126), Cond.constantLong RX10 281 (2), Cond.fieldLink RX10 210 "StreamRemuxerModel" "to" "I", Cond.fieldLink RX10 194 "StreamRemuxerModel" "from" "I", Cond.fieldLink RX10 283 "StreamRemuxerModel" "clusterTime" "J", Cond.fieldLink RX10 240 "StreamRemuxerModel" "hasTime" "Z", Cond.constantLong RX10 67 (1099511627775), Cond.methodLink RX10 264 yX10_isWithin, Cond.instanceMethod yX10_isWithin, Cond.selects RX10 yX10_isWithin yX10_isWithin, Cond.initialized RX10, Cond.code yX10_isWithin cX10_isWithin 8 (some .boolean), Cond.methodLink RX10 258 yX10_uint, Cond.instanceMethod yX10_uint, Cond.selects RX10 yX10_uint yX10_uint, Cond.code yX10_uint cX10_uint 4 (some .long), Cond.constantLong RX10 65 (-1), Cond.constantLong RX10 256 (18014398509481984), Cond.methodLink RX10 125 yX10_at]
def wsX10_plain_r2 : List Cond := [Cond.instanceMethod yX10_at, Cond.selects RX10 yX10_at yX10_at, Cond.code yX10_at cX10_at 2 (some .int), Cond.fieldLink RX10 7 "StreamRemuxerModel" "tape" "[B", Cond.methodLink RX10 151 yX10_fails, Cond.instanceMethod yX10_fails, Cond.selects RX10 yX10_fails yX10_fails, Cond.code yX10_fails cX10_fails 3 (some .boolean), Cond.fieldLink RX10 119 "StreamRemuxerModel" "fault" "I", Cond.fieldLink RX10 122 "StreamRemuxerModel" "faultAt" "I", Cond.methodLink RX10 272 yX10_isMatroska, Cond.instanceMethod yX10_isMatroska, Cond.selects RX10 yX10_isMatroska yX10_isMatroska, Cond.code yX10_isMatroska cX10_isMatroska 4 (some .boolean), Cond.constantLong RX10 289 (7881708857720007521), Cond.methodLink RX10 286 yX10_block, Cond.instanceMethod yX10_block, Cond.selects RX10 yX10_block yX10_block, Cond.code yX10_block cX10_block 13 (some .boolean), Cond.fieldLink RX10 291 "StreamRemuxerModel" "blocks" "I", Cond.fieldLink RX10 43 "StreamRemuxerModel" "sizes" "[I", Cond.fieldLink RX10 75 "StreamRemuxerModel" "readMany" "I", Cond.fieldLink RX10 78 "StreamRemuxerModel" "readTotal" "I", Cond.fieldLink RX10 23 "StreamRemuxerModel" "readSize" "[I"]
def wsX10_plain_r3 : List Cond := [Cond.fieldLink RX10 30 "StreamRemuxerModel" "readTime" "[J", Cond.fieldLink RX10 36 "StreamRemuxerModel" "readBytes" "[B", Cond.methodLink RX10 188 yX10_lengthBy, Cond.static yX10_lengthBy, Cond.code yX10_lengthBy cX10_lengthBy 3 (some .int), Cond.methodLink RX10 200 yX10_sizeAt, Cond.instanceMethod yX10_sizeAt, Cond.selects RX10 yX10_sizeAt yX10_sizeAt, Cond.code yX10_sizeAt cX10_sizeAt 6 (some .long), Cond.methodLink RX10 294 yX10_laced, Cond.instanceMethod yX10_laced, Cond.selects RX10 yX10_laced yX10_laced, Cond.code yX10_laced cX10_laced 9 (some .int), Cond.constantLong RX10 298 (6000)]
def wsX10_plain : List Cond := .code yX10_plain cX10_plain 4 (some .boolean) :: ((wsX10_plain_r1 ++ (wsX10_plain_r2 ++ wsX10_plain_r3)) ++ wsX100)
def wsX10_has : List Cond := .code yX10_has cX10_has 5 (some .boolean) :: ([.fieldLink RX10 240 "StreamRemuxerModel" "hasTime" "Z", .methodLink RX10 151 yX10_fails, .instanceMethod yX10_fails, .selects RX10 yX10_fails yX10_fails, .initialized RX10, .code yX10_fails cX10_fails 3 (some .boolean), .fieldLink RX10 119 "StreamRemuxerModel" "fault" "I", .fieldLink RX10 122 "StreamRemuxerModel" "faultAt" "I"] ++ wsX100)
def wsX10_elements_r1 : List Cond := [Cond.fieldLink RX10 191 "StreamRemuxerModel" "id" "I", Cond.constant RX10 207 (524531317), Cond.fieldLink RX10 210 "StreamRemuxerModel" "to" "I", Cond.fieldLink RX10 203 "StreamRemuxerModel" "unknown" "Z", Cond.fieldLink RX10 240 "StreamRemuxerModel" "hasTime" "Z", Cond.fieldLink RX10 243 "StreamRemuxerModel" "clusters" "I", Cond.fieldLink RX10 194 "StreamRemuxerModel" "from" "I", Cond.fieldLink RX10 250 "StreamRemuxerModel" "over" "I", Cond.methodLink RX10 220 yX10_isCluster, Cond.instanceMethod yX10_isCluster, Cond.selects RX10 yX10_isCluster yX10_isCluster, Cond.initialized RX10, Cond.code yX10_isCluster cX10_isCluster 3 (some .boolean), Cond.methodLink RX10 125 yX10_at, Cond.instanceMethod yX10_at, Cond.selects RX10 yX10_at yX10_at, Cond.code yX10_at cX10_at 2 (some .int), Cond.fieldLink RX10 7 "StreamRemuxerModel" "tape" "[B", Cond.methodLink RX10 223 yX10_name, Cond.instanceMethod yX10_name, Cond.selects RX10 yX10_name yX10_name, Cond.code yX10_name cX10_name 8 (some .boolean), Cond.methodLink RX10 151 yX10_fails, Cond.instanceMethod yX10_fails]
def wsX10_elements_r2 : List Cond := [Cond.selects RX10 yX10_fails yX10_fails, Cond.code yX10_fails cX10_fails 3 (some .boolean), Cond.fieldLink RX10 119 "StreamRemuxerModel" "fault" "I", Cond.fieldLink RX10 122 "StreamRemuxerModel" "faultAt" "I", Cond.methodLink RX10 188 yX10_lengthBy, Cond.static yX10_lengthBy, Cond.code yX10_lengthBy cX10_lengthBy 3 (some .int), Cond.methodLink RX10 197 yX10_mayStand, Cond.instanceMethod yX10_mayStand, Cond.selects RX10 yX10_mayStand yX10_mayStand, Cond.code yX10_mayStand cX10_mayStand 3 (some .boolean), Cond.constant RX10 213 (440786851), Cond.constant RX10 206 (408125543), Cond.constant RX10 217 (357149030), Cond.constant RX10 218 (374648427), Cond.constant RX10 219 (2807729), Cond.methodLink RX10 214 yX10_bitOfHead, Cond.instanceMethod yX10_bitOfHead, Cond.selects RX10 yX10_bitOfHead yX10_bitOfHead, Cond.code yX10_bitOfHead cX10_bitOfHead 1 (some .int), Cond.methodLink RX10 227 yX10_head, Cond.instanceMethod yX10_head, Cond.selects RX10 yX10_head yX10_head, Cond.code yX10_head cX10_head 8 (some .boolean)]
def wsX10_elements_r3 : List Cond := [Cond.constantLong RX10 65 (-1), Cond.constantLong RX10 208 (2147483647), Cond.methodLink RX10 200 yX10_sizeAt, Cond.instanceMethod yX10_sizeAt, Cond.selects RX10 yX10_sizeAt yX10_sizeAt, Cond.code yX10_sizeAt cX10_sizeAt 6 (some .long), Cond.methodLink RX10 231 yX10_bit, Cond.instanceMethod yX10_bit, Cond.selects RX10 yX10_bit yX10_bit, Cond.code yX10_bit cX10_bit 2 (some .int), Cond.methodLink RX10 234 yX10_sortOf, Cond.instanceMethod yX10_sortOf, Cond.selects RX10 yX10_sortOf yX10_sortOf, Cond.code yX10_sortOf cX10_sortOf 1 (some .int), Cond.methodLink RX10 237 yX10_plain, Cond.instanceMethod yX10_plain, Cond.selects RX10 yX10_plain yX10_plain, Cond.code yX10_plain cX10_plain 4 (some .boolean), Cond.constantLong RX10 262 (4611686018427387903), Cond.constantLong RX10 268 (4), Cond.constantLong RX10 270 (8), Cond.fieldLink RX10 276 "StreamRemuxerModel" "number" "I", Cond.constantLong RX10 279 (126), Cond.constantLong RX10 281 (2)]
def wsX10_elements_r4 : List Cond := [Cond.fieldLink RX10 283 "StreamRemuxerModel" "clusterTime" "J", Cond.constantLong RX10 67 (1099511627775), Cond.methodLink RX10 264 yX10_isWithin, Cond.instanceMethod yX10_isWithin, Cond.selects RX10 yX10_isWithin yX10_isWithin, Cond.code yX10_isWithin cX10_isWithin 8 (some .boolean), Cond.methodLink RX10 258 yX10_uint, Cond.instanceMethod yX10_uint, Cond.selects RX10 yX10_uint yX10_uint, Cond.code yX10_uint cX10_uint 4 (some .long), Cond.constantLong RX10 256 (18014398509481984), Cond.methodLink RX10 272 yX10_isMatroska, Cond.instanceMethod yX10_isMatroska, Cond.selects RX10 yX10_isMatroska yX10_isMatroska, Cond.code yX10_isMatroska cX10_isMatroska 4 (some .boolean), Cond.constantLong RX10 289 (7881708857720007521), Cond.methodLink RX10 286 yX10_block, Cond.instanceMethod yX10_block, Cond.selects RX10 yX10_block yX10_block, Cond.code yX10_block cX10_block 13 (some .boolean), Cond.fieldLink RX10 291 "StreamRemuxerModel" "blocks" "I", Cond.fieldLink RX10 43 "StreamRemuxerModel" "sizes" "[I", Cond.fieldLink RX10 75 "StreamRemuxerModel" "readMany" "I", Cond.fieldLink RX10 78 "StreamRemuxerModel" "readTotal" "I"]
def wsX10_elements_r5 : List Cond := [Cond.fieldLink RX10 23 "StreamRemuxerModel" "readSize" "[I", Cond.fieldLink RX10 30 "StreamRemuxerModel" "readTime" "[J", Cond.fieldLink RX10 36 "StreamRemuxerModel" "readBytes" "[B", Cond.methodLink RX10 294 yX10_laced, Cond.instanceMethod yX10_laced, Cond.selects RX10 yX10_laced yX10_laced, Cond.code yX10_laced cX10_laced 9 (some .int), Cond.constantLong RX10 298 (6000), Cond.methodLink RX10 246 yX10_elements, Cond.instanceMethod yX10_elements, Cond.selects RX10 yX10_elements yX10_elements, Cond.methodLink RX10 253 yX10_has, Cond.instanceMethod yX10_has, Cond.selects RX10 yX10_has yX10_has, Cond.code yX10_has cX10_has 5 (some .boolean)]
def wsX10_elements : List Cond := .code yX10_elements cX10_elements 12 (some .boolean) :: ((wsX10_elements_r1 ++ (wsX10_elements_r2 ++ (wsX10_elements_r3 ++ (wsX10_elements_r4 ++ wsX10_elements_r5)))) ++ wsX100)
def wsX10_readElements_r1 : List Cond := [Cond.fieldLink RX10 58 "StreamRemuxerModel" "taped" "I", Cond.fieldLink RX10 243 "StreamRemuxerModel" "clusters" "I", Cond.fieldLink RX10 291 "StreamRemuxerModel" "blocks" "I", Cond.fieldLink RX10 300 "StreamRemuxerModel" "clusterCount" "I", Cond.fieldLink RX10 303 "StreamRemuxerModel" "blockCount" "I", Cond.methodLink RX10 135 yX10_begin, Cond.instanceMethod yX10_begin, Cond.selects RX10 yX10_begin yX10_begin, Cond.initialized RX10, Cond.code yX10_begin cX10_begin 1 none, Cond.fieldLink RX10 119 "StreamRemuxerModel" "fault" "I", Cond.fieldLink RX10 122 "StreamRemuxerModel" "faultAt" "I", Cond.fieldLink RX10 75 "StreamRemuxerModel" "readMany" "I", Cond.fieldLink RX10 78 "StreamRemuxerModel" "readTotal" "I", Cond.methodLink RX10 246 yX10_elements, Cond.instanceMethod yX10_elements, Cond.selects RX10 yX10_elements yX10_elements, Cond.code yX10_elements cX10_elements 12 (some .boolean), Cond.fieldLink RX10 191 "StreamRemuxerModel" "id" "I", Cond.constant RX10 207 (524531317), Cond.fieldLink RX10 210 "StreamRemuxerModel" "to" "I", Cond.fieldLink RX10 203 "StreamRemuxerModel" "unknown" "Z", Cond.fieldLink RX10 240 "StreamRemuxerModel" "hasTime" "Z", Cond.fieldLink RX10 194 "StreamRemuxerModel" "from" "I"]
def wsX10_readElements_r2 : List Cond := [Cond.fieldLink RX10 250 "StreamRemuxerModel" "over" "I", Cond.methodLink RX10 220 yX10_isCluster, Cond.instanceMethod yX10_isCluster, Cond.selects RX10 yX10_isCluster yX10_isCluster, Cond.code yX10_isCluster cX10_isCluster 3 (some .boolean), Cond.methodLink RX10 125 yX10_at, Cond.instanceMethod yX10_at, Cond.selects RX10 yX10_at yX10_at, Cond.code yX10_at cX10_at 2 (some .int), Cond.fieldLink RX10 7 "StreamRemuxerModel" "tape" "[B", Cond.methodLink RX10 223 yX10_name, Cond.instanceMethod yX10_name, Cond.selects RX10 yX10_name yX10_name, Cond.code yX10_name cX10_name 8 (some .boolean), Cond.methodLink RX10 151 yX10_fails, Cond.instanceMethod yX10_fails, Cond.selects RX10 yX10_fails yX10_fails, Cond.code yX10_fails cX10_fails 3 (some .boolean), Cond.methodLink RX10 188 yX10_lengthBy, Cond.static yX10_lengthBy, Cond.code yX10_lengthBy cX10_lengthBy 3 (some .int), Cond.methodLink RX10 197 yX10_mayStand, Cond.instanceMethod yX10_mayStand, Cond.selects RX10 yX10_mayStand yX10_mayStand]
def wsX10_readElements_r3 : List Cond := [Cond.code yX10_mayStand cX10_mayStand 3 (some .boolean), Cond.constant RX10 213 (440786851), Cond.constant RX10 206 (408125543), Cond.constant RX10 217 (357149030), Cond.constant RX10 218 (374648427), Cond.constant RX10 219 (2807729), Cond.methodLink RX10 214 yX10_bitOfHead, Cond.instanceMethod yX10_bitOfHead, Cond.selects RX10 yX10_bitOfHead yX10_bitOfHead, Cond.code yX10_bitOfHead cX10_bitOfHead 1 (some .int), Cond.methodLink RX10 227 yX10_head, Cond.instanceMethod yX10_head, Cond.selects RX10 yX10_head yX10_head, Cond.code yX10_head cX10_head 8 (some .boolean), Cond.constantLong RX10 65 (-1), Cond.constantLong RX10 208 (2147483647), Cond.methodLink RX10 200 yX10_sizeAt, Cond.instanceMethod yX10_sizeAt, Cond.selects RX10 yX10_sizeAt yX10_sizeAt, Cond.code yX10_sizeAt cX10_sizeAt 6 (some .long), Cond.methodLink RX10 231 yX10_bit, Cond.instanceMethod yX10_bit, Cond.selects RX10 yX10_bit yX10_bit, Cond.code yX10_bit cX10_bit 2 (some .int)]
def wsX10_readElements_r4 : List Cond := [Cond.methodLink RX10 234 yX10_sortOf, Cond.instanceMethod yX10_sortOf, Cond.selects RX10 yX10_sortOf yX10_sortOf, Cond.code yX10_sortOf cX10_sortOf 1 (some .int), Cond.methodLink RX10 237 yX10_plain, Cond.instanceMethod yX10_plain, Cond.selects RX10 yX10_plain yX10_plain, Cond.code yX10_plain cX10_plain 4 (some .boolean), Cond.constantLong RX10 262 (4611686018427387903), Cond.constantLong RX10 268 (4), Cond.constantLong RX10 270 (8), Cond.fieldLink RX10 276 "StreamRemuxerModel" "number" "I", Cond.constantLong RX10 279 (126), Cond.constantLong RX10 281 (2), Cond.fieldLink RX10 283 "StreamRemuxerModel" "clusterTime" "J", Cond.constantLong RX10 67 (1099511627775), Cond.methodLink RX10 264 yX10_isWithin, Cond.instanceMethod yX10_isWithin, Cond.selects RX10 yX10_isWithin yX10_isWithin, Cond.code yX10_isWithin cX10_isWithin 8 (some .boolean), Cond.methodLink RX10 258 yX10_uint, Cond.instanceMethod yX10_uint, Cond.selects RX10 yX10_uint yX10_uint, Cond.code yX10_uint cX10_uint 4 (some .long)]
def wsX10_readElements_r5 : List Cond := [Cond.constantLong RX10 256 (18014398509481984), Cond.methodLink RX10 272 yX10_isMatroska, Cond.instanceMethod yX10_isMatroska, Cond.selects RX10 yX10_isMatroska yX10_isMatroska, Cond.code yX10_isMatroska cX10_isMatroska 4 (some .boolean), Cond.constantLong RX10 289 (7881708857720007521), Cond.methodLink RX10 286 yX10_block, Cond.instanceMethod yX10_block, Cond.selects RX10 yX10_block yX10_block, Cond.code yX10_block cX10_block 13 (some .boolean), Cond.fieldLink RX10 43 "StreamRemuxerModel" "sizes" "[I", Cond.fieldLink RX10 23 "StreamRemuxerModel" "readSize" "[I", Cond.fieldLink RX10 30 "StreamRemuxerModel" "readTime" "[J", Cond.fieldLink RX10 36 "StreamRemuxerModel" "readBytes" "[B", Cond.methodLink RX10 294 yX10_laced, Cond.instanceMethod yX10_laced, Cond.selects RX10 yX10_laced yX10_laced, Cond.code yX10_laced cX10_laced 9 (some .int), Cond.constantLong RX10 298 (6000), Cond.methodLink RX10 253 yX10_has, Cond.instanceMethod yX10_has, Cond.selects RX10 yX10_has yX10_has, Cond.code yX10_has cX10_has 5 (some .boolean), Cond.methodLink RX10 164 yX10_ends]
def wsX10_readElements_r6 : List Cond := [Cond.instanceMethod yX10_ends, Cond.selects RX10 yX10_ends yX10_ends, Cond.code yX10_ends cX10_ends 2 (some .int), Cond.fieldLink RX10 129 "StreamRemuxerModel" "told" "I", Cond.fieldLink RX10 39 "StreamRemuxerModel" "toldAt" "I", Cond.fieldLink RX10 69 "StreamRemuxerModel" "many" "I", Cond.methodLink RX10 132 yX10_takeList, Cond.instanceMethod yX10_takeList, Cond.selects RX10 yX10_takeList yX10_takeList, Cond.code yX10_takeList cX10_takeList 2 none, Cond.fieldLink RX10 72 "StreamRemuxerModel" "total" "I", Cond.fieldLink RX10 19 "StreamRemuxerModel" "size" "[I", Cond.fieldLink RX10 26 "StreamRemuxerModel" "time" "[J", Cond.fieldLink RX10 33 "StreamRemuxerModel" "bytes" "[B"]
def wsX10_readElements : List Cond := .code yX10_readElements cX10_readElements 3 (some .int) :: ((wsX10_readElements_r1 ++ (wsX10_readElements_r2 ++ (wsX10_readElements_r3 ++ (wsX10_readElements_r4 ++ (wsX10_readElements_r5 ++ wsX10_readElements_r6))))) ++ wsX100)
def wsX10_wrong : List Cond := .code yX10_wrong cX10_wrong 2 (some .int) :: ([.fieldLink RX10 129 "StreamRemuxerModel" "told" "I", .fieldLink RX10 39 "StreamRemuxerModel" "toldAt" "I"] ++ wsX100)
def wsX10_sizeLength : List Cond := .code yX10_sizeLength cX10_sizeLength 3 (some .int) :: ([])
def wsX10_putSize : List Cond := .code yX10_putSize cX10_putSize 4 none :: ([.methodLink RX10 306 yX10_sizeLength, .static yX10_sizeLength, .initialized RX10, .code yX10_sizeLength cX10_sizeLength 3 (some .int), .methodLink RX10 310 yX10_putHigh, .instanceMethod yX10_putHigh, .selects RX10 yX10_putHigh yX10_putHigh, .code yX10_putHigh cX10_putHigh 5 none, .methodLink RX10 88 yX10_put, .instanceMethod yX10_put, .selects RX10 yX10_put yX10_put, .code yX10_put cX10_put 2 none, .fieldLink RX10 81 "StreamRemuxerModel" "drafted" "I", .fieldLink RX10 84 "StreamRemuxerModel" "full" "Z", .fieldLink RX10 16 "StreamRemuxerModel" "draft" "[B"] ++ wsX100)
def wsX10_later : List Cond := .code yX10_later cX10_later 2 (some .int) :: ([.fieldLink RX10 81 "StreamRemuxerModel" "drafted" "I", .methodLink RX10 88 yX10_put, .instanceMethod yX10_put, .selects RX10 yX10_put yX10_put, .initialized RX10, .code yX10_put cX10_put 2 none, .fieldLink RX10 84 "StreamRemuxerModel" "full" "Z", .fieldLink RX10 16 "StreamRemuxerModel" "draft" "[B", .methodLink RX10 310 yX10_putHigh, .instanceMethod yX10_putHigh, .selects RX10 yX10_putHigh yX10_putHigh, .code yX10_putHigh cX10_putHigh 5 none] ++ wsX100)
def wsX10_tell : List Cond := .code yX10_tell cX10_tell 5 none :: ([.fieldLink RX10 84 "StreamRemuxerModel" "full" "Z", .fieldLink RX10 81 "StreamRemuxerModel" "drafted" "I", .constant RX10 313 (268435456), .fieldLink RX10 16 "StreamRemuxerModel" "draft" "[B"] ++ wsX100)
def wsX10_signedLength : List Cond := .code yX10_signedLength cX10_signedLength 3 (some .int) :: ([])
def wsX10_putBlock_r1 : List Cond := [Cond.constantLong RX10 268 (4), Cond.fieldLink RX10 19 "StreamRemuxerModel" "size" "[I", Cond.fieldLink RX10 33 "StreamRemuxerModel" "bytes" "[B", Cond.methodLink RX10 306 yX10_sizeLength, Cond.static yX10_sizeLength, Cond.initialized RX10, Cond.code yX10_sizeLength cX10_sizeLength 3 (some .int), Cond.methodLink RX10 334 yX10_signedLength, Cond.static yX10_signedLength, Cond.code yX10_signedLength cX10_signedLength 3 (some .int), Cond.methodLink RX10 88 yX10_put, Cond.instanceMethod yX10_put, Cond.selects RX10 yX10_put yX10_put, Cond.code yX10_put cX10_put 2 none, Cond.fieldLink RX10 81 "StreamRemuxerModel" "drafted" "I", Cond.fieldLink RX10 84 "StreamRemuxerModel" "full" "Z", Cond.fieldLink RX10 16 "StreamRemuxerModel" "draft" "[B", Cond.methodLink RX10 337 yX10_putSize, Cond.instanceMethod yX10_putSize, Cond.selects RX10 yX10_putSize yX10_putSize, Cond.code yX10_putSize cX10_putSize 4 none, Cond.methodLink RX10 310 yX10_putHigh, Cond.instanceMethod yX10_putHigh, Cond.selects RX10 yX10_putHigh yX10_putHigh]
def wsX10_putBlock_r2 : List Cond := [Cond.code yX10_putHigh cX10_putHigh 5 none]
def wsX10_putBlock : List Cond := .code yX10_putBlock cX10_putBlock 11 none :: ((wsX10_putBlock_r1 ++ wsX10_putBlock_r2) ++ wsX100)
def wsX10_elements__r1 : List Cond := [Cond.fieldLink RX10 81 "StreamRemuxerModel" "drafted" "I", Cond.fieldLink RX10 84 "StreamRemuxerModel" "full" "Z", Cond.fieldLink RX10 46 "StreamRemuxerModel" "headRow" "[B", Cond.constantLong RX10 318 (408125543), Cond.fieldLink RX10 49 "StreamRemuxerModel" "infoRow" "[B", Cond.fieldLink RX10 52 "StreamRemuxerModel" "tracksRow" "[B", Cond.fieldLink RX10 55 "StreamRemuxerModel" "codecRow" "[B", Cond.fieldLink RX10 69 "StreamRemuxerModel" "many" "I", Cond.constantLong RX10 328 (524531317), Cond.fieldLink RX10 19 "StreamRemuxerModel" "size" "[I", Cond.methodLink RX10 314 yX10_putRow, Cond.instanceMethod yX10_putRow, Cond.selects RX10 yX10_putRow yX10_putRow, Cond.initialized RX10, Cond.code yX10_putRow cX10_putRow 3 none, Cond.methodLink RX10 88 yX10_put, Cond.instanceMethod yX10_put, Cond.selects RX10 yX10_put yX10_put, Cond.code yX10_put cX10_put 2 none, Cond.fieldLink RX10 16 "StreamRemuxerModel" "draft" "[B", Cond.methodLink RX10 310 yX10_putHigh, Cond.instanceMethod yX10_putHigh, Cond.selects RX10 yX10_putHigh yX10_putHigh, Cond.code yX10_putHigh cX10_putHigh 5 none]
def wsX10_elements__r2 : List Cond := [Cond.methodLink RX10 320 yX10_later, Cond.instanceMethod yX10_later, Cond.selects RX10 yX10_later yX10_later, Cond.code yX10_later cX10_later 2 (some .int), Cond.methodLink RX10 99 yX10_timeOf, Cond.instanceMethod yX10_timeOf, Cond.selects RX10 yX10_timeOf yX10_timeOf, Cond.code yX10_timeOf cX10_timeOf 3 (some .long), Cond.fieldLink RX10 26 "StreamRemuxerModel" "time" "[J", Cond.constantLong RX10 65 (-1), Cond.methodLink RX10 324 yX10_tell, Cond.instanceMethod yX10_tell, Cond.selects RX10 yX10_tell yX10_tell, Cond.code yX10_tell cX10_tell 5 none, Cond.constant RX10 313 (268435456), Cond.methodLink RX10 330 yX10_putBlock, Cond.instanceMethod yX10_putBlock, Cond.selects RX10 yX10_putBlock yX10_putBlock, Cond.code yX10_putBlock cX10_putBlock 11 none, Cond.constantLong RX10 268 (4), Cond.fieldLink RX10 33 "StreamRemuxerModel" "bytes" "[B", Cond.methodLink RX10 306 yX10_sizeLength, Cond.static yX10_sizeLength, Cond.code yX10_sizeLength cX10_sizeLength 3 (some .int)]
def wsX10_elements__r3 : List Cond := [Cond.methodLink RX10 334 yX10_signedLength, Cond.static yX10_signedLength, Cond.code yX10_signedLength cX10_signedLength 3 (some .int), Cond.methodLink RX10 337 yX10_putSize, Cond.instanceMethod yX10_putSize, Cond.selects RX10 yX10_putSize yX10_putSize, Cond.code yX10_putSize cX10_putSize 4 none, Cond.methodLink RX10 115 yX10_drawn, Cond.instanceMethod yX10_drawn, Cond.selects RX10 yX10_drawn yX10_drawn, Cond.code yX10_drawn cX10_drawn 2 (some .int), Cond.fieldLink RX10 13 "StreamRemuxerModel" "out" "[B", Cond.fieldLink RX10 91 "StreamRemuxerModel" "outMany" "I"]
def wsX10_elements_ : List Cond := .code yX10_elements_ cX10_elements_ 18 (some .int) :: ((wsX10_elements__r1 ++ (wsX10_elements__r2 ++ wsX10_elements__r3)) ++ wsX100)
def wsX10_turn : List Cond := .code yX10_turn cX10_turn 2 (some .int) :: ([.fieldLink RX10 91 "StreamRemuxerModel" "outMany" "I", .fieldLink RX10 7 "StreamRemuxerModel" "tape" "[B", .fieldLink RX10 13 "StreamRemuxerModel" "out" "[B", .fieldLink RX10 58 "StreamRemuxerModel" "taped" "I"] ++ wsX100)
def wsX10_count : List Cond := .code yX10_count cX10_count 2 (some .int) :: ([.fieldLink RX10 69 "StreamRemuxerModel" "many" "I", .fieldLink RX10 72 "StreamRemuxerModel" "total" "I", .fieldLink RX10 91 "StreamRemuxerModel" "outMany" "I", .fieldLink RX10 58 "StreamRemuxerModel" "taped" "I", .fieldLink RX10 161 "StreamRemuxerModel" "pageCount" "I", .fieldLink RX10 300 "StreamRemuxerModel" "clusterCount" "I", .fieldLink RX10 303 "StreamRemuxerModel" "blockCount" "I"] ++ wsX100)
def wsX10_size : List Cond := .code yX10_size cX10_size 2 (some .int) :: ([.fieldLink RX10 69 "StreamRemuxerModel" "many" "I", .fieldLink RX10 19 "StreamRemuxerModel" "size" "[I"] ++ wsX100)
def wsX10_time : List Cond := .code yX10_time cX10_time 2 (some .long) :: ([.fieldLink RX10 69 "StreamRemuxerModel" "many" "I", .fieldLink RX10 26 "StreamRemuxerModel" "time" "[J", .constantLong RX10 65 (-1)] ++ wsX100)
def wsX10_octet : List Cond := .code yX10_octet cX10_octet 5 (some .int) :: ([.fieldLink RX10 69 "StreamRemuxerModel" "many" "I", .fieldLink RX10 19 "StreamRemuxerModel" "size" "[I", .fieldLink RX10 33 "StreamRemuxerModel" "bytes" "[B"] ++ wsX100)
def wsX10_out : List Cond := .code yX10_out cX10_out 2 (some .int) :: ([.fieldLink RX10 91 "StreamRemuxerModel" "outMany" "I", .fieldLink RX10 13 "StreamRemuxerModel" "out" "[B"] ++ wsX100)
def wsX10_patch : List Cond := .code yX10_patch cX10_patch 3 (some .boolean) :: ([.fieldLink RX10 58 "StreamRemuxerModel" "taped" "I", .fieldLink RX10 7 "StreamRemuxerModel" "tape" "[B"] ++ wsX100)
def wsX10_sum_r1 : List Cond := [Cond.fieldLink RX10 58 "StreamRemuxerModel" "taped" "I", Cond.fieldLink RX10 7 "StreamRemuxerModel" "tape" "[B", Cond.methodLink RX10 167 yX10_isMark, Cond.instanceMethod yX10_isMark, Cond.selects RX10 yX10_isMark yX10_isMark, Cond.initialized RX10, Cond.code yX10_isMark cX10_isMark 2 (some .boolean), Cond.methodLink RX10 125 yX10_at, Cond.instanceMethod yX10_at, Cond.selects RX10 yX10_at yX10_at, Cond.code yX10_at cX10_at 2 (some .int), Cond.methodLink RX10 171 yX10_isWhole, Cond.instanceMethod yX10_isWhole, Cond.selects RX10 yX10_isWhole yX10_isWhole, Cond.code yX10_isWhole cX10_isWhole 3 (some .boolean), Cond.methodLink RX10 158 yX10_lengthOf, Cond.instanceMethod yX10_lengthOf, Cond.selects RX10 yX10_lengthOf yX10_lengthOf, Cond.code yX10_lengthOf cX10_lengthOf 4 (some .int), Cond.methodLink RX10 111 yX10_putSum, Cond.static yX10_putSum, Cond.code yX10_putSum cX10_putSum 5 none, Cond.methodLink RX10 95 yX10_sumOf, Cond.static yX10_sumOf]
def wsX10_sum_r2 : List Cond := [Cond.code yX10_sumOf cX10_sumOf 7 (some .int), Cond.constant RX10 94 (79764919)]
def wsX10_sum : List Cond := .code yX10_sum cX10_sum 2 (some .boolean) :: ((wsX10_sum_r1 ++ wsX10_sum_r2) ++ wsX100)
def wsJ9_abs_067f4 : List Cond := .code yJ9_abs_067f4 cJ9_abs_067f4 2 (some .long) :: ([])
def wsJ9_max_7cf53 : List Cond := .code yJ9_max_7cf53 cJ9_max_7cf53 2 (some .int) :: ([])
def wsJ9_max_f86c9 : List Cond := .code yJ9_max_f86c9 cJ9_max_f86c9 4 (some .long) :: ([])
def wsJ9_min_7cf53 : List Cond := .code yJ9_min_7cf53 cJ9_min_7cf53 2 (some .int) :: ([])
theorem dX0_highestSize_0 : decode cX0_highestSize 0 = .ok (.lconst 1, 1) := by decide +kernel
theorem dX0_highestSize_1 : decode cX0_highestSize 1 = .ok (.bipush 7, 2) := by decide +kernel
theorem dX0_highestSize_3 : decode cX0_highestSize 3 = .ok (.iload_n 0, 1) := by decide +kernel
theorem dX0_highestSize_4 : decode cX0_highestSize 4 = .ok (.imul, 1) := by decide +kernel
theorem dX0_highestSize_5 : decode cX0_highestSize 5 = .ok (.lshl, 1) := by decide +kernel
theorem dX0_highestSize_6 : decode cX0_highestSize 6 = .ok (.ldc2_w 7, 3) := by decide +kernel
theorem dX0_highestSize_9 : decode cX0_highestSize 9 = .ok (.lsub, 1) := by decide +kernel
theorem dX0_highestSize_10 : decode cX0_highestSize 10 = .ok (.lreturn, 1) := by decide +kernel
theorem dX0_differenceShift_0 : decode cX0_differenceShift 0 = .ok (.lconst 1, 1) := by decide +kernel
theorem dX0_differenceShift_1 : decode cX0_differenceShift 1 = .ok (.bipush 7, 2) := by decide +kernel
theorem dX0_differenceShift_3 : decode cX0_differenceShift 3 = .ok (.iload_n 0, 1) := by decide +kernel
theorem dX0_differenceShift_4 : decode cX0_differenceShift 4 = .ok (.imul, 1) := by decide +kernel
theorem dX0_differenceShift_5 : decode cX0_differenceShift 5 = .ok (.iconst 1, 1) := by decide +kernel
theorem dX0_differenceShift_6 : decode cX0_differenceShift 6 = .ok (.isub, 1) := by decide +kernel
theorem dX0_differenceShift_7 : decode cX0_differenceShift 7 = .ok (.lshl, 1) := by decide +kernel
theorem dX0_differenceShift_8 : decode cX0_differenceShift 8 = .ok (.lconst 1, 1) := by decide +kernel
theorem dX0_differenceShift_9 : decode cX0_differenceShift 9 = .ok (.lsub, 1) := by decide +kernel
theorem dX0_differenceShift_10 : decode cX0_differenceShift 10 = .ok (.lreturn, 1) := by decide +kernel
set_option maxRecDepth 20000 in
theorem ggX1_init_X3_init : GoodIn wsX1_init wsX3_init := goodIn_r _ [11, 12, 2, 3] (by decide +kernel) (by decide +kernel)
set_option maxRecDepth 20000 in
theorem gX1_init_X3_init_n23 : GoodIn wsX1_init (wsX3_init) := ggX1_init_X3_init
theorem dX1_init_0 : decode cX1_init 0 = .ok (.aload_n 0, 1) := by decide +kernel
theorem dX1_init_1 : decode cX1_init 1 = .ok (.invokespecial 5, 3) := by decide +kernel
theorem dX1_init_4 : decode cX1_init 4 = .ok (.aload_n 0, 1) := by decide +kernel
theorem dX1_init_5 : decode cX1_init 5 = .ok (.sipush 256, 3) := by decide +kernel
theorem dX1_init_8 : decode cX1_init 8 = .ok (.newarray .int, 2) := by decide +kernel
theorem dX1_init_10 : decode cX1_init 10 = .ok (.putfield 13, 3) := by decide +kernel
theorem dX1_init_13 : decode cX1_init 13 = .ok (.aload_n 0, 1) := by decide +kernel
theorem dX1_init_14 : decode cX1_init 14 = .ok (.iconst 5, 1) := by decide +kernel
theorem dX1_init_15 : decode cX1_init 15 = .ok (.anewarray 17, 3) := by decide +kernel
theorem dX1_init_18 : decode cX1_init 18 = .ok (.putfield 19, 3) := by decide +kernel
theorem dX1_init_21 : decode cX1_init 21 = .ok (.iconst 0, 1) := by decide +kernel
theorem dX1_init_22 : decode cX1_init 22 = .ok (.istore_n 1, 1) := by decide +kernel
theorem dX1_init_23 : decode cX1_init 23 = .ok (.iload_n 1, 1) := by decide +kernel
theorem dX1_init_24 : decode cX1_init 24 = .ok (.aload_n 0, 1) := by decide +kernel
theorem dX1_init_25 : decode cX1_init 25 = .ok (.getfield 19, 3) := by decide +kernel
theorem dX1_init_28 : decode cX1_init 28 = .ok (.arraylength, 1) := by decide +kernel
theorem dX1_init_29 : decode cX1_init 29 = .ok (.if_icmp .ge 22, 3) := by decide +kernel
theorem dX1_init_32 : decode cX1_init 32 = .ok (.aload_n 0, 1) := by decide +kernel
theorem dX1_init_33 : decode cX1_init 33 = .ok (.getfield 19, 3) := by decide +kernel
theorem dX1_init_36 : decode cX1_init 36 = .ok (.iload_n 1, 1) := by decide +kernel
theorem dX1_init_37 : decode cX1_init 37 = .ok (.new 17, 3) := by decide +kernel
theorem dX1_init_40 : decode cX1_init 40 = .ok (.dup, 1) := by decide +kernel
theorem dX1_init_41 : decode cX1_init 41 = .ok (.invokespecial 23, 3) := by decide +kernel
theorem dX1_init_44 : decode cX1_init 44 = .ok (.aastore, 1) := by decide +kernel
theorem dX1_init_45 : decode cX1_init 45 = .ok (.iinc 1 1, 3) := by decide +kernel
theorem dX1_init_48 : decode cX1_init 48 = .ok (.goto (-25), 3) := by decide +kernel
theorem dX1_init_51 : decode cX1_init 51 = .ok (.return_, 1) := by decide +kernel
set_option maxRecDepth 20000 in
theorem ggX1_read_X1_openLevel : GoodIn wsX1_read wsX1_openLevel := goodIn_r _ [17, 10, 11, 18, 19, 12, 20, 21, 22, 23, 7, 5, 9, 24, 25, 26, 16, 27, 3, 4, 211, 212, 213, 214, 215, 216, 217, 218, 219, 220, 221, 222, 223, 224, 225, 226, 227, 228] (by decide +kernel) (by decide +kernel)
set_option maxRecDepth 20000 in
theorem gX1_read_X1_openLevel : GoodIn wsX1_read (wsV RX1 57 RX1 yX1_openLevel wsX1_openLevel) := goodIn_app (goodIn_of _ (by decide +kernel)) ggX1_read_X1_openLevel
set_option maxRecDepth 20000 in
theorem ggX1_read_X1_readElement : GoodIn wsX1_read wsX1_readElement := goodIn_r _ [31, 12, 21, 22, 18, 20, 1, 23, 7, 32, 33, 34, 16, 35, 36, 37, 38, 39, 40, 41, 42, 43, 44, 45, 24, 25, 26, 27, 3, 4, 46, 47, 48, 49, 50, 51, 52, 53, 54, 19, 10, 55, 56, 57, 58, 59, 60, 61, 62, 63, 64, 65, 66, 67, 68, 69, 70, 71, 72, 73, 74, 75, 76, 77, 78, 79, 80, 81, 82, 83, 84, 85, 86, 87, 88, 89, 90, 91, 92, 13, 14, 15, 17, 11, 5, 9, 93, 94, 95, 96, 97, 8, 98, 99, 100, 101, 102, 103, 104, 105, 106, 107, 108, 109, 110, 111, 112, 113, 114, 115, 116, 117, 118, 119, 120, 121, 122, 123, 124, 125, 126, 127, 128, 129, 130, 131, 132, 133, 134, 135, 136, 137, 138, 139, 140, 141, 142, 143, 144, 145, 146, 147, 148, 149, 150, 151, 152, 153, 154, 155, 156, 2, 157, 6, 158, 159, 160, 161, 162, 163, 164, 165, 166, 167, 168, 169, 170, 171, 172, 173, 174, 175, 176, 177, 178, 179, 180, 181, 182, 183, 184, 185, 186, 187, 188, 189, 190, 191, 192, 193, 194, 195, 196, 197, 198, 199, 200, 201, 202, 203, 204, 205, 206, 207, 208, 209, 210, 224, 225, 226, 227, 228, 211, 212, 213, 214, 215, 216, 217, 218, 219, 220, 221, 222, 223, 229, 230, 231, 232, 233, 234, 235, 236] (by decide +kernel) (by decide +kernel)
set_option maxRecDepth 20000 in
theorem gX1_read_X1_readElement : GoodIn wsX1_read (wsV RX1 64 RX1 yX1_readElement wsX1_readElement) := goodIn_app (goodIn_of _ (by decide +kernel)) ggX1_read_X1_readElement
set_option maxRecDepth 20000 in
theorem ggX1_read_X1_closeLevel : GoodIn wsX1_read wsX1_closeLevel := goodIn_r _ [54, 18, 20, 19, 10, 55, 56, 16, 57, 58, 59, 60, 61, 62, 7, 24, 25, 26, 27, 3, 4, 224, 225, 226, 227, 228, 211, 212, 213, 214, 215, 216, 217, 218, 219, 220, 221, 222, 223] (by decide +kernel) (by decide +kernel)
set_option maxRecDepth 20000 in
theorem gX1_read_X1_closeLevel : GoodIn wsX1_read (wsV RX1 68 RX1 yX1_closeLevel wsX1_closeLevel) := goodIn_app (goodIn_of _ (by decide +kernel)) ggX1_read_X1_closeLevel
theorem dX1_read_0 : decode cX1_read 0 = .ok (.aload_n 0, 1) := by decide +kernel
theorem dX1_read_1 : decode cX1_read 1 = .ok (.aload_n 1, 1) := by decide +kernel
theorem dX1_read_2 : decode cX1_read 2 = .ok (.putfield 24, 3) := by decide +kernel
theorem dX1_read_5 : decode cX1_read 5 = .ok (.aload_n 0, 1) := by decide +kernel
theorem dX1_read_6 : decode cX1_read 6 = .ok (.aload_n 3, 1) := by decide +kernel
theorem dX1_read_7 : decode cX1_read 7 = .ok (.putfield 28, 3) := by decide +kernel
theorem dX1_read_10 : decode cX1_read 10 = .ok (.aload_n 0, 1) := by decide +kernel
theorem dX1_read_11 : decode cX1_read 11 = .ok (.iconst 0, 1) := by decide +kernel
theorem dX1_read_12 : decode cX1_read 12 = .ok (.putfield 32, 3) := by decide +kernel
theorem dX1_read_15 : decode cX1_read 15 = .ok (.aload_n 0, 1) := by decide +kernel
theorem dX1_read_16 : decode cX1_read 16 = .ok (.iconst (-1), 1) := by decide +kernel
theorem dX1_read_17 : decode cX1_read 17 = .ok (.putfield 36, 3) := by decide +kernel
theorem dX1_read_20 : decode cX1_read 20 = .ok (.aload_n 0, 1) := by decide +kernel
theorem dX1_read_21 : decode cX1_read 21 = .ok (.iconst 0, 1) := by decide +kernel
theorem dX1_read_22 : decode cX1_read 22 = .ok (.putfield 39, 3) := by decide +kernel
theorem dX1_read_25 : decode cX1_read 25 = .ok (.aload_n 0, 1) := by decide +kernel
theorem dX1_read_26 : decode cX1_read 26 = .ok (.iconst 0, 1) := by decide +kernel
theorem dX1_read_27 : decode cX1_read 27 = .ok (.putfield 42, 3) := by decide +kernel
theorem dX1_read_30 : decode cX1_read 30 = .ok (.aload_n 0, 1) := by decide +kernel
theorem dX1_read_31 : decode cX1_read 31 = .ok (.ldc2_w 45, 3) := by decide +kernel
theorem dX1_read_34 : decode cX1_read 34 = .ok (.putfield 47, 3) := by decide +kernel
theorem dX1_read_37 : decode cX1_read 37 = .ok (.aload_n 0, 1) := by decide +kernel
theorem dX1_read_38 : decode cX1_read 38 = .ok (.ldc2_w 45, 3) := by decide +kernel
theorem dX1_read_41 : decode cX1_read 41 = .ok (.putfield 51, 3) := by decide +kernel
theorem dX1_read_44 : decode cX1_read 44 = .ok (.aload_n 0, 1) := by decide +kernel
theorem dX1_read_45 : decode cX1_read 45 = .ok (.iconst 0, 1) := by decide +kernel
theorem dX1_read_46 : decode cX1_read 46 = .ok (.putfield 54, 3) := by decide +kernel
theorem dX1_read_49 : decode cX1_read 49 = .ok (.aload_n 0, 1) := by decide +kernel
theorem dX1_read_50 : decode cX1_read 50 = .ok (.iconst 0, 1) := by decide +kernel
theorem dX1_read_51 : decode cX1_read 51 = .ok (.iload_n 2, 1) := by decide +kernel
theorem dX1_read_52 : decode cX1_read 52 = .ok (.iconst 0, 1) := by decide +kernel
theorem dX1_read_53 : decode cX1_read 53 = .ok (.iload_n 2, 1) := by decide +kernel
theorem dX1_read_54 : decode cX1_read 54 = .ok (.invokevirtual 57, 3) := by decide +kernel
theorem dX1_read_57 : decode cX1_read 57 = .ok (.istore 4, 2) := by decide +kernel
theorem dX1_read_59 : decode cX1_read 59 = .ok (.iconst 0, 1) := by decide +kernel
theorem dX1_read_60 : decode cX1_read 60 = .ok (.istore 5, 2) := by decide +kernel
theorem dX1_read_62 : decode cX1_read 62 = .ok (.iload 5, 2) := by decide +kernel
theorem dX1_read_64 : decode cX1_read 64 = .ok (.sipush 12000, 3) := by decide +kernel
theorem dX1_read_67 : decode cX1_read 67 = .ok (.if_icmp .ge 66, 3) := by decide +kernel
theorem dX1_read_70 : decode cX1_read 70 = .ok (.iload 4, 2) := by decide +kernel
theorem dX1_read_72 : decode cX1_read 72 = .ok (.iconst (-1), 1) := by decide +kernel
theorem dX1_read_73 : decode cX1_read 73 = .ok (.if_icmp .eq 60, 3) := by decide +kernel
theorem dX1_read_76 : decode cX1_read 76 = .ok (.aload_n 0, 1) := by decide +kernel
theorem dX1_read_77 : decode cX1_read 77 = .ok (.getfield 54, 3) := by decide +kernel
theorem dX1_read_80 : decode cX1_read 80 = .ok (.ifCond .le 53, 3) := by decide +kernel
theorem dX1_read_83 : decode cX1_read 83 = .ok (.aload_n 0, 1) := by decide +kernel
theorem dX1_read_84 : decode cX1_read 84 = .ok (.getfield 19, 3) := by decide +kernel
theorem dX1_read_87 : decode cX1_read 87 = .ok (.aload_n 0, 1) := by decide +kernel
theorem dX1_read_88 : decode cX1_read 88 = .ok (.getfield 54, 3) := by decide +kernel
theorem dX1_read_91 : decode cX1_read 91 = .ok (.iconst 1, 1) := by decide +kernel
theorem dX1_read_92 : decode cX1_read 92 = .ok (.isub, 1) := by decide +kernel
theorem dX1_read_93 : decode cX1_read 93 = .ok (.aaload, 1) := by decide +kernel
theorem dX1_read_94 : decode cX1_read 94 = .ok (.astore 6, 2) := by decide +kernel
theorem dX1_read_96 : decode cX1_read 96 = .ok (.iload 4, 2) := by decide +kernel
theorem dX1_read_98 : decode cX1_read 98 = .ok (.aload 6, 2) := by decide +kernel
theorem dX1_read_100 : decode cX1_read 100 = .ok (.getfield 61, 3) := by decide +kernel
theorem dX1_read_103 : decode cX1_read 103 = .ok (.if_icmp .ge 14, 3) := by decide +kernel
theorem dX1_read_106 : decode cX1_read 106 = .ok (.aload_n 0, 1) := by decide +kernel
theorem dX1_read_107 : decode cX1_read 107 = .ok (.aload 6, 2) := by decide +kernel
theorem dX1_read_109 : decode cX1_read 109 = .ok (.iload 4, 2) := by decide +kernel
theorem dX1_read_111 : decode cX1_read 111 = .ok (.invokevirtual 64, 3) := by decide +kernel
theorem dX1_read_114 : decode cX1_read 114 = .ok (.goto 11, 3) := by decide +kernel
theorem dX1_read_117 : decode cX1_read 117 = .ok (.aload_n 0, 1) := by decide +kernel
theorem dX1_read_118 : decode cX1_read 118 = .ok (.aload 6, 2) := by decide +kernel
theorem dX1_read_120 : decode cX1_read 120 = .ok (.iload 4, 2) := by decide +kernel
theorem dX1_read_122 : decode cX1_read 122 = .ok (.invokevirtual 68, 3) := by decide +kernel
theorem dX1_read_125 : decode cX1_read 125 = .ok (.istore 4, 2) := by decide +kernel
theorem dX1_read_127 : decode cX1_read 127 = .ok (.iinc 5 1, 3) := by decide +kernel
theorem dX1_read_130 : decode cX1_read 130 = .ok (.goto (-68), 3) := by decide +kernel
theorem dX1_read_133 : decode cX1_read 133 = .ok (.return_, 1) := by decide +kernel
theorem dX1_fail_0 : decode cX1_fail 0 = .ok (.aload_n 0, 1) := by decide +kernel
theorem dX1_fail_1 : decode cX1_fail 1 = .ok (.iload_n 1, 1) := by decide +kernel
theorem dX1_fail_2 : decode cX1_fail 2 = .ok (.putfield 32, 3) := by decide +kernel
theorem dX1_fail_5 : decode cX1_fail 5 = .ok (.aload_n 0, 1) := by decide +kernel
theorem dX1_fail_6 : decode cX1_fail 6 = .ok (.iload_n 2, 1) := by decide +kernel
theorem dX1_fail_7 : decode cX1_fail 7 = .ok (.putfield 36, 3) := by decide +kernel
theorem dX1_fail_10 : decode cX1_fail 10 = .ok (.iconst (-1), 1) := by decide +kernel
theorem dX1_fail_11 : decode cX1_fail 11 = .ok (.ireturn, 1) := by decide +kernel
set_option maxRecDepth 20000 in
theorem ggX1_openLevel_X1_fail : GoodIn wsX1_openLevel wsX1_fail := goodIn_r _ [17, 18, 19, 20, 21, 22, 23, 24, 25, 26, 27, 28, 29, 30, 31, 32] (by decide +kernel) (by decide +kernel)
set_option maxRecDepth 20000 in
theorem gX1_openLevel_X1_fail : GoodIn wsX1_openLevel (wsV RX1 71 RX1 yX1_fail wsX1_fail) := goodIn_app (goodIn_of _ (by decide +kernel)) ggX1_openLevel_X1_fail
theorem dX1_openLevel_0 : decode cX1_openLevel 0 = .ok (.aload_n 0, 1) := by decide +kernel
theorem dX1_openLevel_1 : decode cX1_openLevel 1 = .ok (.getfield 54, 3) := by decide +kernel
theorem dX1_openLevel_4 : decode cX1_openLevel 4 = .ok (.aload_n 0, 1) := by decide +kernel
theorem dX1_openLevel_5 : decode cX1_openLevel 5 = .ok (.getfield 19, 3) := by decide +kernel
theorem dX1_openLevel_8 : decode cX1_openLevel 8 = .ok (.arraylength, 1) := by decide +kernel
theorem dX1_openLevel_9 : decode cX1_openLevel 9 = .ok (.if_icmp .lt 10, 3) := by decide +kernel
theorem dX1_openLevel_12 : decode cX1_openLevel 12 = .ok (.aload_n 0, 1) := by decide +kernel
theorem dX1_openLevel_13 : decode cX1_openLevel 13 = .ok (.iconst 2, 1) := by decide +kernel
theorem dX1_openLevel_14 : decode cX1_openLevel 14 = .ok (.iload_n 2, 1) := by decide +kernel
theorem dX1_openLevel_15 : decode cX1_openLevel 15 = .ok (.invokevirtual 71, 3) := by decide +kernel
theorem dX1_openLevel_18 : decode cX1_openLevel 18 = .ok (.ireturn, 1) := by decide +kernel
theorem dX1_openLevel_19 : decode cX1_openLevel 19 = .ok (.aload_n 0, 1) := by decide +kernel
theorem dX1_openLevel_20 : decode cX1_openLevel 20 = .ok (.getfield 19, 3) := by decide +kernel
theorem dX1_openLevel_23 : decode cX1_openLevel 23 = .ok (.aload_n 0, 1) := by decide +kernel
theorem dX1_openLevel_24 : decode cX1_openLevel 24 = .ok (.getfield 54, 3) := by decide +kernel
theorem dX1_openLevel_27 : decode cX1_openLevel 27 = .ok (.aaload, 1) := by decide +kernel
theorem dX1_openLevel_28 : decode cX1_openLevel 28 = .ok (.astore 5, 2) := by decide +kernel
theorem dX1_openLevel_30 : decode cX1_openLevel 30 = .ok (.aload 5, 2) := by decide +kernel
theorem dX1_openLevel_32 : decode cX1_openLevel 32 = .ok (.iload_n 1, 1) := by decide +kernel
theorem dX1_openLevel_33 : decode cX1_openLevel 33 = .ok (.putfield 75, 3) := by decide +kernel
theorem dX1_openLevel_36 : decode cX1_openLevel 36 = .ok (.aload 5, 2) := by decide +kernel
theorem dX1_openLevel_38 : decode cX1_openLevel 38 = .ok (.iload_n 2, 1) := by decide +kernel
theorem dX1_openLevel_39 : decode cX1_openLevel 39 = .ok (.putfield 78, 3) := by decide +kernel
theorem dX1_openLevel_42 : decode cX1_openLevel 42 = .ok (.aload 5, 2) := by decide +kernel
theorem dX1_openLevel_44 : decode cX1_openLevel 44 = .ok (.iload 4, 2) := by decide +kernel
theorem dX1_openLevel_46 : decode cX1_openLevel 46 = .ok (.putfield 61, 3) := by decide +kernel
theorem dX1_openLevel_49 : decode cX1_openLevel 49 = .ok (.aload 5, 2) := by decide +kernel
theorem dX1_openLevel_51 : decode cX1_openLevel 51 = .ok (.iconst 0, 1) := by decide +kernel
theorem dX1_openLevel_52 : decode cX1_openLevel 52 = .ok (.putfield 81, 3) := by decide +kernel
theorem dX1_openLevel_55 : decode cX1_openLevel 55 = .ok (.aload 5, 2) := by decide +kernel
theorem dX1_openLevel_57 : decode cX1_openLevel 57 = .ok (.iconst 0, 1) := by decide +kernel
theorem dX1_openLevel_58 : decode cX1_openLevel 58 = .ok (.putfield 84, 3) := by decide +kernel
theorem dX1_openLevel_61 : decode cX1_openLevel 61 = .ok (.aload_n 0, 1) := by decide +kernel
theorem dX1_openLevel_62 : decode cX1_openLevel 62 = .ok (.dup, 1) := by decide +kernel
theorem dX1_openLevel_63 : decode cX1_openLevel 63 = .ok (.getfield 54, 3) := by decide +kernel
theorem dX1_openLevel_66 : decode cX1_openLevel 66 = .ok (.iconst 1, 1) := by decide +kernel
theorem dX1_openLevel_67 : decode cX1_openLevel 67 = .ok (.iadd, 1) := by decide +kernel
theorem dX1_openLevel_68 : decode cX1_openLevel 68 = .ok (.putfield 54, 3) := by decide +kernel
theorem dX1_openLevel_71 : decode cX1_openLevel 71 = .ok (.iload_n 1, 1) := by decide +kernel
theorem dX1_openLevel_72 : decode cX1_openLevel 72 = .ok (.ldc 88, 2) := by decide +kernel
theorem dX1_openLevel_74 : decode cX1_openLevel 74 = .ok (.if_icmp .ne 41, 3) := by decide +kernel
theorem dX1_openLevel_77 : decode cX1_openLevel 77 = .ok (.aload 5, 2) := by decide +kernel
theorem dX1_openLevel_79 : decode cX1_openLevel 79 = .ok (.aload_n 0, 1) := by decide +kernel
theorem dX1_openLevel_80 : decode cX1_openLevel 80 = .ok (.getfield 89, 3) := by decide +kernel
theorem dX1_openLevel_83 : decode cX1_openLevel 83 = .ok (.ldc2_w 45, 3) := by decide +kernel
theorem dX1_openLevel_86 : decode cX1_openLevel 86 = .ok (.lcmp, 1) := by decide +kernel
theorem dX1_openLevel_87 : decode cX1_openLevel 87 = .ok (.ifCond .ne 7, 3) := by decide +kernel
theorem dX1_openLevel_90 : decode cX1_openLevel 90 = .ok (.iconst 1, 1) := by decide +kernel
theorem dX1_openLevel_91 : decode cX1_openLevel 91 = .ok (.goto 4, 3) := by decide +kernel
theorem dX1_openLevel_94 : decode cX1_openLevel 94 = .ok (.iconst 0, 1) := by decide +kernel
theorem dX1_openLevel_95 : decode cX1_openLevel 95 = .ok (.putfield 84, 3) := by decide +kernel
theorem dX1_openLevel_98 : decode cX1_openLevel 98 = .ok (.aload_n 0, 1) := by decide +kernel
theorem dX1_openLevel_99 : decode cX1_openLevel 99 = .ok (.dup, 1) := by decide +kernel
theorem dX1_openLevel_100 : decode cX1_openLevel 100 = .ok (.getfield 39, 3) := by decide +kernel
theorem dX1_openLevel_103 : decode cX1_openLevel 103 = .ok (.iconst 1, 1) := by decide +kernel
theorem dX1_openLevel_104 : decode cX1_openLevel 104 = .ok (.iadd, 1) := by decide +kernel
theorem dX1_openLevel_105 : decode cX1_openLevel 105 = .ok (.putfield 39, 3) := by decide +kernel
theorem dX1_openLevel_108 : decode cX1_openLevel 108 = .ok (.aload_n 0, 1) := by decide +kernel
theorem dX1_openLevel_109 : decode cX1_openLevel 109 = .ok (.ldc2_w 45, 3) := by decide +kernel
theorem dX1_openLevel_112 : decode cX1_openLevel 112 = .ok (.putfield 51, 3) := by decide +kernel
theorem dX1_openLevel_115 : decode cX1_openLevel 115 = .ok (.iload_n 3, 1) := by decide +kernel
theorem dX1_openLevel_116 : decode cX1_openLevel 116 = .ok (.ireturn, 1) := by decide +kernel
set_option maxRecDepth 20000 in
theorem ggX1_closeLevel_X1_lacksSome : GoodIn wsX1_closeLevel wsX1_lacksSome := goodIn_r _ [8, 9, 10, 11, 7, 12, 13, 14] (by decide +kernel) (by decide +kernel)
set_option maxRecDepth 20000 in
theorem gX1_closeLevel_X1_lacksSome : GoodIn wsX1_closeLevel (va_wsS RX1 92 yX1_lacksSome wsX1_lacksSome) := goodIn_app (goodIn_of _ (by decide +kernel)) ggX1_closeLevel_X1_lacksSome
set_option maxRecDepth 20000 in
theorem ggX1_closeLevel_X1_fail : GoodIn wsX1_closeLevel wsX1_fail := goodIn_r _ [18, 19, 20, 26, 27, 28, 29, 30, 31, 32, 33, 34, 35, 36, 37, 38] (by decide +kernel) (by decide +kernel)
set_option maxRecDepth 20000 in
theorem gX1_closeLevel_X1_fail : GoodIn wsX1_closeLevel (wsV RX1 71 RX1 yX1_fail wsX1_fail) := goodIn_app (goodIn_of _ (by decide +kernel)) ggX1_closeLevel_X1_fail
theorem dX1_closeLevel_0 : decode cX1_closeLevel 0 = .ok (.aload_n 1, 1) := by decide +kernel
theorem dX1_closeLevel_1 : decode cX1_closeLevel 1 = .ok (.getfield 75, 3) := by decide +kernel
theorem dX1_closeLevel_4 : decode cX1_closeLevel 4 = .ok (.aload_n 1, 1) := by decide +kernel
theorem dX1_closeLevel_5 : decode cX1_closeLevel 5 = .ok (.getfield 81, 3) := by decide +kernel
theorem dX1_closeLevel_8 : decode cX1_closeLevel 8 = .ok (.invokestatic 92, 3) := by decide +kernel
theorem dX1_closeLevel_11 : decode cX1_closeLevel 11 = .ok (.ifCond .eq 14, 3) := by decide +kernel
theorem dX1_closeLevel_14 : decode cX1_closeLevel 14 = .ok (.aload_n 0, 1) := by decide +kernel
theorem dX1_closeLevel_15 : decode cX1_closeLevel 15 = .ok (.bipush 7, 2) := by decide +kernel
theorem dX1_closeLevel_17 : decode cX1_closeLevel 17 = .ok (.aload_n 1, 1) := by decide +kernel
theorem dX1_closeLevel_18 : decode cX1_closeLevel 18 = .ok (.getfield 78, 3) := by decide +kernel
theorem dX1_closeLevel_21 : decode cX1_closeLevel 21 = .ok (.invokevirtual 71, 3) := by decide +kernel
theorem dX1_closeLevel_24 : decode cX1_closeLevel 24 = .ok (.ireturn, 1) := by decide +kernel
theorem dX1_closeLevel_25 : decode cX1_closeLevel 25 = .ok (.aload_n 0, 1) := by decide +kernel
theorem dX1_closeLevel_26 : decode cX1_closeLevel 26 = .ok (.dup, 1) := by decide +kernel
theorem dX1_closeLevel_27 : decode cX1_closeLevel 27 = .ok (.getfield 54, 3) := by decide +kernel
theorem dX1_closeLevel_30 : decode cX1_closeLevel 30 = .ok (.iconst 1, 1) := by decide +kernel
theorem dX1_closeLevel_31 : decode cX1_closeLevel 31 = .ok (.isub, 1) := by decide +kernel
theorem dX1_closeLevel_32 : decode cX1_closeLevel 32 = .ok (.putfield 54, 3) := by decide +kernel
theorem dX1_closeLevel_35 : decode cX1_closeLevel 35 = .ok (.iload_n 2, 1) := by decide +kernel
theorem dX1_closeLevel_36 : decode cX1_closeLevel 36 = .ok (.ireturn, 1) := by decide +kernel
set_option maxRecDepth 20000 in
theorem ggX1_readElement_X1_readId : GoodIn wsX1_readElement wsX1_readId := goodIn_r _ [13, 6, 14, 15, 16, 17, 18, 19, 20, 21, 22, 12, 23, 24, 25, 26, 27, 28, 29, 30, 31, 32, 33, 34, 212, 213, 214, 215, 216, 217, 218, 219, 220, 221, 222, 223, 224, 225, 226, 227, 228] (by decide +kernel) (by decide +kernel)
set_option maxRecDepth 20000 in
theorem gX1_readElement_X1_readId : GoodIn wsX1_readElement (wsV RX1 96 RX1 yX1_readId wsX1_readId) := goodIn_app (goodIn_of _ (by decide +kernel)) ggX1_readElement_X1_readId
set_option maxRecDepth 20000 in
theorem ggX1_readElement_X1_closeLevel : GoodIn wsX1_readElement wsX1_closeLevel := goodIn_r _ [38, 4, 5, 39, 40, 41, 42, 12, 43, 44, 45, 46, 47, 48, 8, 24, 25, 26, 27, 28, 29, 207, 208, 209, 210, 211, 212, 213, 214, 215, 216, 217, 218, 219, 220, 221, 222, 223, 224] (by decide +kernel) (by decide +kernel)
set_option maxRecDepth 20000 in
theorem gX1_readElement_X1_closeLevel : GoodIn wsX1_readElement (wsV RX1 68 RX1 yX1_closeLevel wsX1_closeLevel) := goodIn_app (goodIn_of _ (by decide +kernel)) ggX1_readElement_X1_closeLevel
set_option maxRecDepth 20000 in
theorem ggX1_readElement_X1_rowOf : GoodIn wsX1_readElement wsX1_rowOf := goodIn_r _ [51, 8, 45, 46, 12, 47, 48] (by decide +kernel) (by decide +kernel)
set_option maxRecDepth 20000 in
theorem gX1_readElement_X1_rowOf : GoodIn wsX1_readElement (va_wsS RX1 99 yX1_rowOf wsX1_rowOf) := goodIn_app (goodIn_of _ (by decide +kernel)) ggX1_readElement_X1_rowOf
set_option maxRecDepth 20000 in
theorem ggX1_readElement_X1_mayStand : GoodIn wsX1_readElement wsX1_mayStand := goodIn_r _ [54, 55, 56, 3, 57, 58, 59, 12, 60, 49, 50, 51, 8, 45, 46, 47, 48] (by decide +kernel) (by decide +kernel)
set_option maxRecDepth 20000 in
theorem gX1_readElement_X1_mayStand : GoodIn wsX1_readElement (va_wsS RX1 102 yX1_mayStand wsX1_mayStand) := goodIn_app (goodIn_of _ (by decide +kernel)) ggX1_readElement_X1_mayStand
set_option maxRecDepth 20000 in
theorem ggX1_readElement_X1_fail : GoodIn wsX1_readElement wsX1_fail := goodIn_r _ [27, 28, 29, 212, 213, 214, 215, 216, 217, 218, 219, 220, 221, 222, 223, 224] (by decide +kernel) (by decide +kernel)
set_option maxRecDepth 20000 in
theorem gX1_readElement_X1_fail : GoodIn wsX1_readElement (wsV RX1 71 RX1 yX1_fail wsX1_fail) := goodIn_app (goodIn_of _ (by decide +kernel)) ggX1_readElement_X1_fail
set_option maxRecDepth 20000 in
theorem ggX1_readElement_X8_at : GoodIn wsX1_readElement wsX8_at := goodIn_r _ [18, 19, 20, 225, 226, 227, 228] (by decide +kernel) (by decide +kernel)
set_option maxRecDepth 20000 in
theorem gX1_readElement_X8_at : GoodIn wsX1_readElement (wsV RX1 105 RX8 yX8_at wsX8_at) := goodIn_app (goodIn_of _ (by decide +kernel)) ggX1_readElement_X8_at
set_option maxRecDepth 20000 in
theorem ggX1_readElement_X1_markedWidth : GoodIn wsX1_readElement wsX1_markedWidth := goodIn_r _ [23] (by decide +kernel) (by decide +kernel)
set_option maxRecDepth 20000 in
theorem gX1_readElement_X1_markedWidth : GoodIn wsX1_readElement (va_wsS RX1 111 yX1_markedWidth wsX1_markedWidth) := goodIn_app (goodIn_of _ (by decide +kernel)) ggX1_readElement_X1_markedWidth
set_option maxRecDepth 20000 in
theorem ggX1_readElement_X1_readSize : GoodIn wsX1_readElement wsX1_readSize := goodIn_r _ [64, 7, 55, 3, 65, 8, 66, 67, 68, 12, 69, 6, 14, 15, 16, 17, 18, 19, 20, 21, 22, 23, 24, 25, 26, 27, 28, 29, 70, 71, 72, 73, 74, 75, 76, 77, 78, 212, 213, 214, 215, 216, 217, 218, 219, 220, 221, 222, 223, 224, 225, 226, 227, 228] (by decide +kernel) (by decide +kernel)
set_option maxRecDepth 20000 in
theorem gX1_readElement_X1_readSize : GoodIn wsX1_readElement (wsV RX1 114 RX1 yX1_readSize wsX1_readSize) := goodIn_app (goodIn_of _ (by decide +kernel)) ggX1_readElement_X1_readSize
set_option maxRecDepth 20000 in
theorem ggX1_readElement_X1_column : GoodIn wsX1_readElement wsX1_column := goodIn_r _ [47, 48, 8] (by decide +kernel) (by decide +kernel)
set_option maxRecDepth 20000 in
theorem gX1_readElement_X1_column : GoodIn wsX1_readElement (va_wsS RX1 117 yX1_column wsX1_column) := goodIn_app (goodIn_of _ (by decide +kernel)) ggX1_readElement_X1_column
set_option maxRecDepth 20000 in
theorem ggX1_readElement_X1_openLevel : GoodIn wsX1_readElement wsX1_openLevel := goodIn_r _ [82, 40, 83, 4, 39, 1, 5, 2, 3, 7, 8, 84, 85, 24, 25, 26, 12, 27, 28, 29, 212, 213, 214, 215, 216, 217, 218, 219, 220, 221, 222, 223, 224, 207, 208, 209, 210, 211] (by decide +kernel) (by decide +kernel)
set_option maxRecDepth 20000 in
theorem gX1_readElement_X1_openLevel : GoodIn wsX1_readElement (wsV RX1 57 RX1 yX1_openLevel wsX1_openLevel) := goodIn_app (goodIn_of _ (by decide +kernel)) ggX1_readElement_X1_openLevel
set_option maxRecDepth 20000 in
theorem ggX1_readElement_X1_readUint : GoodIn wsX1_readElement wsX1_readUint := goodIn_r _ [89, 6, 90, 91, 92, 85, 24, 25, 26, 12, 27, 28, 29, 30, 31, 32, 17, 33, 34, 15, 16, 18, 19, 20, 45, 46, 47, 48, 8, 212, 213, 214, 215, 216, 217, 218, 219, 220, 221, 222, 223, 224, 225, 226, 227, 228] (by decide +kernel) (by decide +kernel)
set_option maxRecDepth 20000 in
theorem gX1_readElement_X1_readUint : GoodIn wsX1_readElement (wsV RX1 121 RX1 yX1_readUint wsX1_readUint) := goodIn_app (goodIn_of _ (by decide +kernel)) ggX1_readElement_X1_readUint
set_option maxRecDepth 20000 in
theorem ggX1_readElement_X1_isDocumentName : GoodIn wsX1_readElement wsX1_isDocumentName := goodIn_r _ [96, 6, 97, 98, 99, 100, 101, 102, 103, 104, 105, 106, 107, 108, 14, 15, 16, 17, 18, 19, 20, 109, 110, 111, 112, 113, 114, 115, 116, 117, 118, 119, 120, 121, 122, 123, 124, 125, 126, 127, 128, 129, 130, 131, 132, 133, 134, 135, 136, 137, 138, 139, 140, 141, 142, 143, 144, 145, 212, 213, 214, 215, 216, 217, 218, 219, 220, 221, 222, 223, 224, 225, 226, 227, 228] (by decide +kernel) (by decide +kernel)
set_option maxRecDepth 20000 in
theorem gX1_readElement_X1_isDocumentName : GoodIn wsX1_readElement (wsV RX1 124 RX1 yX1_isDocumentName wsX1_isDocumentName) := goodIn_app (goodIn_of _ (by decide +kernel)) ggX1_readElement_X1_isDocumentName
set_option maxRecDepth 20000 in
theorem ggX1_readElement_X1_readBlock : GoodIn wsX1_readElement wsX1_readBlock := goodIn_r _ [149, 85, 8, 91, 6, 150, 151, 152, 153, 24, 25, 26, 12, 27, 28, 29, 66, 67, 68, 69, 14, 15, 16, 17, 18, 19, 20, 21, 22, 23, 70, 71, 72, 73, 74, 75, 76, 77, 78, 30, 31, 32, 33, 34, 154, 155, 156, 157, 158, 159, 160, 161, 162, 163, 164, 165, 166, 167, 168, 169, 170, 171, 172, 173, 174, 175, 176, 177, 178, 179, 180, 181, 182, 183, 184, 185, 186, 187, 188, 189, 190, 191, 192, 193, 194, 195, 196, 197, 198, 199, 200, 201, 202, 203, 204, 205, 206, 212, 213, 214, 215, 216, 217, 218, 219, 220, 221, 222, 223, 224, 225, 226, 227, 228, 229, 230, 231, 232] (by decide +kernel) (by decide +kernel)
set_option maxRecDepth 20000 in
theorem gX1_readElement_X1_readBlock : GoodIn wsX1_readElement (wsV RX1 127 RX1 yX1_readBlock wsX1_readBlock) := goodIn_app (goodIn_of _ (by decide +kernel)) ggX1_readElement_X1_readBlock
theorem dX1_readElement_0 : decode cX1_readElement 0 = .ok (.aload_n 0, 1) := by decide +kernel
theorem dX1_readElement_1 : decode cX1_readElement 1 = .ok (.iload_n 2, 1) := by decide +kernel
theorem dX1_readElement_2 : decode cX1_readElement 2 = .ok (.aload_n 1, 1) := by decide +kernel
theorem dX1_readElement_3 : decode cX1_readElement 3 = .ok (.getfield 61, 3) := by decide +kernel
theorem dX1_readElement_6 : decode cX1_readElement 6 = .ok (.invokevirtual 96, 3) := by decide +kernel
theorem dX1_readElement_9 : decode cX1_readElement 9 = .ok (.istore_n 3, 1) := by decide +kernel
theorem dX1_readElement_10 : decode cX1_readElement 10 = .ok (.iload_n 3, 1) := by decide +kernel
theorem dX1_readElement_11 : decode cX1_readElement 11 = .ok (.iconst (-1), 1) := by decide +kernel
theorem dX1_readElement_12 : decode cX1_readElement 12 = .ok (.if_icmp .ne 5, 3) := by decide +kernel
theorem dX1_readElement_15 : decode cX1_readElement 15 = .ok (.iconst (-1), 1) := by decide +kernel
theorem dX1_readElement_16 : decode cX1_readElement 16 = .ok (.ireturn, 1) := by decide +kernel
theorem dX1_readElement_17 : decode cX1_readElement 17 = .ok (.aload_n 1, 1) := by decide +kernel
theorem dX1_readElement_18 : decode cX1_readElement 18 = .ok (.getfield 84, 3) := by decide +kernel
theorem dX1_readElement_21 : decode cX1_readElement 21 = .ok (.ifCond .eq 16, 3) := by decide +kernel
theorem dX1_readElement_24 : decode cX1_readElement 24 = .ok (.iload_n 3, 1) := by decide +kernel
theorem dX1_readElement_25 : decode cX1_readElement 25 = .ok (.ldc 88, 2) := by decide +kernel
theorem dX1_readElement_27 : decode cX1_readElement 27 = .ok (.if_icmp .ne 10, 3) := by decide +kernel
theorem dX1_readElement_30 : decode cX1_readElement 30 = .ok (.aload_n 0, 1) := by decide +kernel
theorem dX1_readElement_31 : decode cX1_readElement 31 = .ok (.aload_n 1, 1) := by decide +kernel
theorem dX1_readElement_32 : decode cX1_readElement 32 = .ok (.iload_n 2, 1) := by decide +kernel
theorem dX1_readElement_33 : decode cX1_readElement 33 = .ok (.invokevirtual 68, 3) := by decide +kernel
theorem dX1_readElement_36 : decode cX1_readElement 36 = .ok (.ireturn, 1) := by decide +kernel
theorem dX1_readElement_37 : decode cX1_readElement 37 = .ok (.iload_n 3, 1) := by decide +kernel
theorem dX1_readElement_38 : decode cX1_readElement 38 = .ok (.aload_n 1, 1) := by decide +kernel
theorem dX1_readElement_39 : decode cX1_readElement 39 = .ok (.getfield 75, 3) := by decide +kernel
theorem dX1_readElement_42 : decode cX1_readElement 42 = .ok (.invokestatic 99, 3) := by decide +kernel
theorem dX1_readElement_45 : decode cX1_readElement 45 = .ok (.istore 4, 2) := by decide +kernel
theorem dX1_readElement_47 : decode cX1_readElement 47 = .ok (.iload 4, 2) := by decide +kernel
theorem dX1_readElement_49 : decode cX1_readElement 49 = .ok (.iconst (-1), 1) := by decide +kernel
theorem dX1_readElement_50 : decode cX1_readElement 50 = .ok (.if_icmp .eq 14, 3) := by decide +kernel
theorem dX1_readElement_53 : decode cX1_readElement 53 = .ok (.iload_n 3, 1) := by decide +kernel
theorem dX1_readElement_54 : decode cX1_readElement 54 = .ok (.aload_n 1, 1) := by decide +kernel
theorem dX1_readElement_55 : decode cX1_readElement 55 = .ok (.getfield 81, 3) := by decide +kernel
theorem dX1_readElement_58 : decode cX1_readElement 58 = .ok (.invokestatic 102, 3) := by decide +kernel
theorem dX1_readElement_61 : decode cX1_readElement 61 = .ok (.ifCond .ne 10, 3) := by decide +kernel
theorem dX1_readElement_64 : decode cX1_readElement 64 = .ok (.aload_n 0, 1) := by decide +kernel
theorem dX1_readElement_65 : decode cX1_readElement 65 = .ok (.iconst 2, 1) := by decide +kernel
theorem dX1_readElement_66 : decode cX1_readElement 66 = .ok (.iload_n 2, 1) := by decide +kernel
theorem dX1_readElement_67 : decode cX1_readElement 67 = .ok (.invokevirtual 71, 3) := by decide +kernel
theorem dX1_readElement_70 : decode cX1_readElement 70 = .ok (.ireturn, 1) := by decide +kernel
theorem dX1_readElement_71 : decode cX1_readElement 71 = .ok (.aload_n 0, 1) := by decide +kernel
theorem dX1_readElement_72 : decode cX1_readElement 72 = .ok (.iload_n 2, 1) := by decide +kernel
theorem dX1_readElement_73 : decode cX1_readElement 73 = .ok (.iload_n 2, 1) := by decide +kernel
theorem dX1_readElement_74 : decode cX1_readElement 74 = .ok (.aload_n 0, 1) := by decide +kernel
theorem dX1_readElement_75 : decode cX1_readElement 75 = .ok (.getfield 24, 3) := by decide +kernel
theorem dX1_readElement_78 : decode cX1_readElement 78 = .ok (.iload_n 2, 1) := by decide +kernel
theorem dX1_readElement_79 : decode cX1_readElement 79 = .ok (.invokevirtual 105, 3) := by decide +kernel
theorem dX1_readElement_82 : decode cX1_readElement 82 = .ok (.invokestatic 111, 3) := by decide +kernel
theorem dX1_readElement_85 : decode cX1_readElement 85 = .ok (.iadd, 1) := by decide +kernel
theorem dX1_readElement_86 : decode cX1_readElement 86 = .ok (.aload_n 1, 1) := by decide +kernel
theorem dX1_readElement_87 : decode cX1_readElement 87 = .ok (.getfield 61, 3) := by decide +kernel
theorem dX1_readElement_90 : decode cX1_readElement 90 = .ok (.iload_n 3, 1) := by decide +kernel
theorem dX1_readElement_91 : decode cX1_readElement 91 = .ok (.invokevirtual 114, 3) := by decide +kernel
theorem dX1_readElement_94 : decode cX1_readElement 94 = .ok (.istore 5, 2) := by decide +kernel
theorem dX1_readElement_96 : decode cX1_readElement 96 = .ok (.iload 5, 2) := by decide +kernel
theorem dX1_readElement_98 : decode cX1_readElement 98 = .ok (.iconst (-1), 1) := by decide +kernel
theorem dX1_readElement_99 : decode cX1_readElement 99 = .ok (.if_icmp .ne 5, 3) := by decide +kernel
theorem dX1_readElement_102 : decode cX1_readElement 102 = .ok (.iconst (-1), 1) := by decide +kernel
theorem dX1_readElement_103 : decode cX1_readElement 103 = .ok (.ireturn, 1) := by decide +kernel
theorem dX1_readElement_104 : decode cX1_readElement 104 = .ok (.iload 4, 2) := by decide +kernel
theorem dX1_readElement_106 : decode cX1_readElement 106 = .ok (.iconst 2, 1) := by decide +kernel
theorem dX1_readElement_107 : decode cX1_readElement 107 = .ok (.invokestatic 117, 3) := by decide +kernel
theorem dX1_readElement_110 : decode cX1_readElement 110 = .ok (.lconst 0, 1) := by decide +kernel
theorem dX1_readElement_111 : decode cX1_readElement 111 = .ok (.lcmp, 1) := by decide +kernel
theorem dX1_readElement_112 : decode cX1_readElement 112 = .ok (.ifCond .eq 22, 3) := by decide +kernel
theorem dX1_readElement_115 : decode cX1_readElement 115 = .ok (.aload_n 1, 1) := by decide +kernel
theorem dX1_readElement_116 : decode cX1_readElement 116 = .ok (.getfield 81, 3) := by decide +kernel
theorem dX1_readElement_119 : decode cX1_readElement 119 = .ok (.iload 4, 2) := by decide +kernel
theorem dX1_readElement_121 : decode cX1_readElement 121 = .ok (.ishr, 1) := by decide +kernel
theorem dX1_readElement_122 : decode cX1_readElement 122 = .ok (.iconst 1, 1) := by decide +kernel
theorem dX1_readElement_123 : decode cX1_readElement 123 = .ok (.iand, 1) := by decide +kernel
theorem dX1_readElement_124 : decode cX1_readElement 124 = .ok (.ifCond .eq 10, 3) := by decide +kernel
theorem dX1_readElement_127 : decode cX1_readElement 127 = .ok (.aload_n 0, 1) := by decide +kernel
theorem dX1_readElement_128 : decode cX1_readElement 128 = .ok (.iconst 4, 1) := by decide +kernel
theorem dX1_readElement_129 : decode cX1_readElement 129 = .ok (.iload_n 2, 1) := by decide +kernel
theorem dX1_readElement_130 : decode cX1_readElement 130 = .ok (.invokevirtual 71, 3) := by decide +kernel
theorem dX1_readElement_133 : decode cX1_readElement 133 = .ok (.ireturn, 1) := by decide +kernel
theorem dX1_readElement_134 : decode cX1_readElement 134 = .ok (.aload_n 1, 1) := by decide +kernel
theorem dX1_readElement_135 : decode cX1_readElement 135 = .ok (.dup, 1) := by decide +kernel
theorem dX1_readElement_136 : decode cX1_readElement 136 = .ok (.getfield 81, 3) := by decide +kernel
theorem dX1_readElement_139 : decode cX1_readElement 139 = .ok (.iconst 1, 1) := by decide +kernel
theorem dX1_readElement_140 : decode cX1_readElement 140 = .ok (.iload 4, 2) := by decide +kernel
theorem dX1_readElement_142 : decode cX1_readElement 142 = .ok (.ishl, 1) := by decide +kernel
theorem dX1_readElement_143 : decode cX1_readElement 143 = .ok (.ior, 1) := by decide +kernel
theorem dX1_readElement_144 : decode cX1_readElement 144 = .ok (.putfield 81, 3) := by decide +kernel
theorem dX1_readElement_147 : decode cX1_readElement 147 = .ok (.aload_n 0, 1) := by decide +kernel
theorem dX1_readElement_148 : decode cX1_readElement 148 = .ok (.getfield 89, 3) := by decide +kernel
theorem dX1_readElement_151 : decode cX1_readElement 151 = .ok (.ldc2_w 45, 3) := by decide +kernel
theorem dX1_readElement_154 : decode cX1_readElement 154 = .ok (.lcmp, 1) := by decide +kernel
theorem dX1_readElement_155 : decode cX1_readElement 155 = .ok (.ifCond .ne 10, 3) := by decide +kernel
theorem dX1_readElement_158 : decode cX1_readElement 158 = .ok (.aload_n 1, 1) := by decide +kernel
theorem dX1_readElement_159 : decode cX1_readElement 159 = .ok (.getfield 61, 3) := by decide +kernel
theorem dX1_readElement_162 : decode cX1_readElement 162 = .ok (.goto 11, 3) := by decide +kernel
theorem dX1_readElement_165 : decode cX1_readElement 165 = .ok (.iload 5, 2) := by decide +kernel
theorem dX1_readElement_167 : decode cX1_readElement 167 = .ok (.aload_n 0, 1) := by decide +kernel
theorem dX1_readElement_168 : decode cX1_readElement 168 = .ok (.getfield 89, 3) := by decide +kernel
theorem dX1_readElement_171 : decode cX1_readElement 171 = .ok (.l2i, 1) := by decide +kernel
theorem dX1_readElement_172 : decode cX1_readElement 172 = .ok (.iadd, 1) := by decide +kernel
theorem dX1_readElement_173 : decode cX1_readElement 173 = .ok (.istore 6, 2) := by decide +kernel
theorem dX1_readElement_175 : decode cX1_readElement 175 = .ok (.iload 4, 2) := by decide +kernel
theorem dX1_readElement_177 : decode cX1_readElement 177 = .ok (.iconst 3, 1) := by decide +kernel
theorem dX1_readElement_178 : decode cX1_readElement 178 = .ok (.invokestatic 117, 3) := by decide +kernel
theorem dX1_readElement_181 : decode cX1_readElement 181 = .ok (.l2i, 1) := by decide +kernel
theorem dX1_readElement_182 : decode cX1_readElement 182 = .ok (.tableswitch 91 0 4 #[34, 45, 91, 57, 80], 34) := by decide +kernel
theorem dX1_readElement_216 : decode cX1_readElement 216 = .ok (.aload_n 0, 1) := by decide +kernel
theorem dX1_readElement_217 : decode cX1_readElement 217 = .ok (.iload_n 3, 1) := by decide +kernel
theorem dX1_readElement_218 : decode cX1_readElement 218 = .ok (.iload_n 2, 1) := by decide +kernel
theorem dX1_readElement_219 : decode cX1_readElement 219 = .ok (.iload 5, 2) := by decide +kernel
theorem dX1_readElement_221 : decode cX1_readElement 221 = .ok (.iload 6, 2) := by decide +kernel
theorem dX1_readElement_223 : decode cX1_readElement 223 = .ok (.invokevirtual 57, 3) := by decide +kernel
theorem dX1_readElement_226 : decode cX1_readElement 226 = .ok (.ireturn, 1) := by decide +kernel
theorem dX1_readElement_227 : decode cX1_readElement 227 = .ok (.aload_n 0, 1) := by decide +kernel
theorem dX1_readElement_228 : decode cX1_readElement 228 = .ok (.iload 4, 2) := by decide +kernel
theorem dX1_readElement_230 : decode cX1_readElement 230 = .ok (.iload_n 2, 1) := by decide +kernel
theorem dX1_readElement_231 : decode cX1_readElement 231 = .ok (.iload 5, 2) := by decide +kernel
theorem dX1_readElement_233 : decode cX1_readElement 233 = .ok (.iload 6, 2) := by decide +kernel
theorem dX1_readElement_235 : decode cX1_readElement 235 = .ok (.invokevirtual 121, 3) := by decide +kernel
theorem dX1_readElement_238 : decode cX1_readElement 238 = .ok (.ireturn, 1) := by decide +kernel
theorem dX1_readElement_239 : decode cX1_readElement 239 = .ok (.aload_n 0, 1) := by decide +kernel
theorem dX1_readElement_240 : decode cX1_readElement 240 = .ok (.iload 5, 2) := by decide +kernel
theorem dX1_readElement_242 : decode cX1_readElement 242 = .ok (.iload 6, 2) := by decide +kernel
theorem dX1_readElement_244 : decode cX1_readElement 244 = .ok (.invokevirtual 124, 3) := by decide +kernel
theorem dX1_readElement_247 : decode cX1_readElement 247 = .ok (.ifCond .eq 8, 3) := by decide +kernel
theorem dX1_readElement_250 : decode cX1_readElement 250 = .ok (.iload 6, 2) := by decide +kernel
theorem dX1_readElement_252 : decode cX1_readElement 252 = .ok (.goto 9, 3) := by decide +kernel
theorem dX1_readElement_255 : decode cX1_readElement 255 = .ok (.aload_n 0, 1) := by decide +kernel
theorem dX1_readElement_256 : decode cX1_readElement 256 = .ok (.iconst 5, 1) := by decide +kernel
theorem dX1_readElement_257 : decode cX1_readElement 257 = .ok (.iload_n 2, 1) := by decide +kernel
theorem dX1_readElement_258 : decode cX1_readElement 258 = .ok (.invokevirtual 71, 3) := by decide +kernel
theorem dX1_readElement_261 : decode cX1_readElement 261 = .ok (.ireturn, 1) := by decide +kernel
theorem dX1_readElement_262 : decode cX1_readElement 262 = .ok (.aload_n 0, 1) := by decide +kernel
theorem dX1_readElement_263 : decode cX1_readElement 263 = .ok (.iload_n 3, 1) := by decide +kernel
theorem dX1_readElement_264 : decode cX1_readElement 264 = .ok (.iload_n 2, 1) := by decide +kernel
theorem dX1_readElement_265 : decode cX1_readElement 265 = .ok (.iload 5, 2) := by decide +kernel
theorem dX1_readElement_267 : decode cX1_readElement 267 = .ok (.iload 6, 2) := by decide +kernel
theorem dX1_readElement_269 : decode cX1_readElement 269 = .ok (.invokevirtual 127, 3) := by decide +kernel
theorem dX1_readElement_272 : decode cX1_readElement 272 = .ok (.ireturn, 1) := by decide +kernel
theorem dX1_readElement_273 : decode cX1_readElement 273 = .ok (.iload 6, 2) := by decide +kernel
theorem dX1_readElement_275 : decode cX1_readElement 275 = .ok (.iload 5, 2) := by decide +kernel
theorem dX1_readElement_277 : decode cX1_readElement 277 = .ok (.isub, 1) := by decide +kernel
theorem dX1_readElement_278 : decode cX1_readElement 278 = .ok (.i2l, 1) := by decide +kernel
theorem dX1_readElement_279 : decode cX1_readElement 279 = .ok (.iload 4, 2) := by decide +kernel
theorem dX1_readElement_281 : decode cX1_readElement 281 = .ok (.iconst 4, 1) := by decide +kernel
theorem dX1_readElement_282 : decode cX1_readElement 282 = .ok (.invokestatic 117, 3) := by decide +kernel
theorem dX1_readElement_285 : decode cX1_readElement 285 = .ok (.lcmp, 1) := by decide +kernel
theorem dX1_readElement_286 : decode cX1_readElement 286 = .ok (.ifCond .lt 8, 3) := by decide +kernel
theorem dX1_readElement_289 : decode cX1_readElement 289 = .ok (.iload 6, 2) := by decide +kernel
theorem dX1_readElement_291 : decode cX1_readElement 291 = .ok (.goto 9, 3) := by decide +kernel
theorem dX1_readElement_294 : decode cX1_readElement 294 = .ok (.aload_n 0, 1) := by decide +kernel
theorem dX1_readElement_295 : decode cX1_readElement 295 = .ok (.iconst 5, 1) := by decide +kernel
theorem dX1_readElement_296 : decode cX1_readElement 296 = .ok (.iload_n 2, 1) := by decide +kernel
theorem dX1_readElement_297 : decode cX1_readElement 297 = .ok (.invokevirtual 71, 3) := by decide +kernel
theorem dX1_readElement_300 : decode cX1_readElement 300 = .ok (.ireturn, 1) := by decide +kernel
theorem dX1_column_0 : decode cX1_column 0 = .ok (.iload_n 0, 1) := by decide +kernel
theorem dX1_column_1 : decode cX1_column 1 = .ok (.bipush 6, 2) := by decide +kernel
theorem dX1_column_3 : decode cX1_column 3 = .ok (.imul, 1) := by decide +kernel
theorem dX1_column_4 : decode cX1_column 4 = .ok (.iload_n 1, 1) := by decide +kernel
theorem dX1_column_5 : decode cX1_column 5 = .ok (.iadd, 1) := by decide +kernel
theorem dX1_column_6 : decode cX1_column 6 = .ok (.istore_n 2, 1) := by decide +kernel
theorem dX1_column_7 : decode cX1_column 7 = .ok (.iload_n 2, 1) := by decide +kernel
theorem dX1_column_8 : decode cX1_column 8 = .ok (.ifCond .lt 19, 3) := by decide +kernel
theorem dX1_column_11 : decode cX1_column 11 = .ok (.iload_n 2, 1) := by decide +kernel
theorem dX1_column_12 : decode cX1_column 12 = .ok (.getstatic 130, 3) := by decide +kernel
theorem dX1_column_15 : decode cX1_column 15 = .ok (.arraylength, 1) := by decide +kernel
theorem dX1_column_16 : decode cX1_column 16 = .ok (.if_icmp .ge 11, 3) := by decide +kernel
theorem dX1_column_19 : decode cX1_column 19 = .ok (.getstatic 130, 3) := by decide +kernel
theorem dX1_column_22 : decode cX1_column 22 = .ok (.iload_n 2, 1) := by decide +kernel
theorem dX1_column_23 : decode cX1_column 23 = .ok (.laload, 1) := by decide +kernel
theorem dX1_column_24 : decode cX1_column 24 = .ok (.goto 6, 3) := by decide +kernel
theorem dX1_column_27 : decode cX1_column 27 = .ok (.ldc2_w 45, 3) := by decide +kernel
theorem dX1_column_30 : decode cX1_column 30 = .ok (.lreturn, 1) := by decide +kernel
set_option maxRecDepth 20000 in
theorem ggX1_rowOf_X1_column : GoodIn wsX1_rowOf wsX1_column := goodIn_r _ [5, 6, 1] (by decide +kernel) (by decide +kernel)
set_option maxRecDepth 20000 in
theorem gX1_rowOf_X1_column : GoodIn wsX1_rowOf (va_wsS RX1 117 yX1_column wsX1_column) := goodIn_app (goodIn_of _ (by decide +kernel)) ggX1_rowOf_X1_column
theorem dX1_rowOf_0 : decode cX1_rowOf 0 = .ok (.iconst 0, 1) := by decide +kernel
