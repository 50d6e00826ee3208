/-! ===== BEGIN words of one list among another's, by their places ===== -/
theorem goodIn_r {big : List Cond} (ws : List Cond) (ps : List Nat) (hp : ws = ps.filterMap (fun i => big[i]?)) (h : ws.all goodWord = true) : GoodIn big ws := by
  intro w hw
  have h1 := List.all_eq_true.mp h w hw
  rw [hp] at hw
  obtain ⟨i, -, hi⟩ := List.mem_filterMap.mp hw
  have hm : w ∈ big := by first | exact List.mem_of_getElem? hi | exact List.getElem?_mem hi
  exact ⟨hm, good_of_word h1⟩
theorem goodIn_app {big a b : List Cond} (ha : GoodIn big a) (hb : GoodIn big b) : GoodIn big (a ++ b) := fun w h => (List.mem_append.mp h).elim (ha w) (hb w)
theorem goodIn_ca {big a b : List Cond} {c : Cond} (ha : GoodIn big (c :: a)) (hb : GoodIn big b) : GoodIn big (c :: (a ++ b)) := fun w h => (List.mem_cons.mp h).elim (fun e => ha w (List.mem_cons.mpr (Or.inl e))) (fun h => (List.mem_append.mp h).elim (fun h => ha w (List.mem_cons.mpr (Or.inr h))) (hb w))
theorem goodIn_sub {big ws : List Cond} (hm : ∀ w ∈ ws, w ∈ big) (h : ws.all goodWord = true) : GoodIn big ws := fun w hw => ⟨hm w hw, good_of_word (List.all_eq_true.mp h w hw)⟩
/-! ===== END ===== -/

/-! ===== BEGIN printed: names, fields, word lists, decode rows ===== -/
def RX0 : String := "StreamRemuxer$ElementForm"
def TX0 : u_T := fun k => match k with
  | _ => ("", "", "", false)
def tyX0 : Nat → FieldType := fun k => match k with
  | _ => .int
abbrev wsX00 : List Cond := u_ws RX0 TX0 0
theorem nmX0 : ∀ a, a < 0 → ∀ b, b < 0 → a ≠ b → (TX0 a).2.1 ≠ (TX0 b).2.1 := by decide +kernel
theorem tyX0_ok : ∀ k, k < 0 → parseFieldDescriptor (TX0 k).2.2.1 = some (tyX0 k) := by decide +kernel
abbrev cX0_highestSize : ByteArray := prog_2_method_2_code
def yX0_highestSize : MethodName := ⟨RX0, "highestSize", "(I)J"⟩
abbrev cX0_differenceShift : ByteArray := prog_2_method_3_code
def yX0_differenceShift : MethodName := ⟨RX0, "differenceShift", "(I)J"⟩
def RX1 : String := "StreamRemuxer$ElementReader"
def TX1 : u_T := fun k => match k with
  | 0 => ("StreamRemuxer$ElementReader", "fault", "I", false)
  | 1 => ("StreamRemuxer$ElementReader", "place", "I", false)
  | 2 => ("StreamRemuxer$ElementReader", "clusters", "I", false)
  | 3 => ("StreamRemuxer$ElementReader", "blocks", "I", false)
  | 4 => ("StreamRemuxer$ElementReader", "lacedSizes", "[I", true)
  | 5 => ("StreamRemuxer$ElementReader", "levels", "[LStreamRemuxer$Level;", true)
  | 6 => ("StreamRemuxer$ElementReader", "depth", "I", false)
  | 7 => ("StreamRemuxer$ElementReader", "file", "LStreamRemuxer$Row;", false)
  | 8 => ("StreamRemuxer$ElementReader", "target", "LStreamRemuxer$PacketList;", false)
  | 9 => ("StreamRemuxer$ElementReader", "trackNumber", "J", false)
  | 10 => ("StreamRemuxer$ElementReader", "clusterTime", "J", false)
  | 11 => ("StreamRemuxer$ElementReader", "bodySize", "J", false)
  | _ => ("StreamRemuxer$ElementReader", "lacingAt", "I", false)
def tyX1 : Nat → FieldType := fun k => match k with
  | 0 => .int
  | 1 => .int
  | 2 => .int
  | 3 => .int
  | 4 => .array .int
  | 5 => .array (.object "StreamRemuxer$Level")
  | 6 => .int
  | 7 => .object "StreamRemuxer$Row"
  | 8 => .object "StreamRemuxer$PacketList"
  | 9 => .long
  | 10 => .long
  | 11 => .long
  | _ => .int
abbrev wsX10 : List Cond := u_ws RX1 TX1 13
theorem nmX1 : ∀ a, a < 13 → ∀ b, b < 13 → a ≠ b → (TX1 a).2.1 ≠ (TX1 b).2.1 := by decide +kernel
theorem tyX1_ok : ∀ k, k < 13 → parseFieldDescriptor (TX1 k).2.2.1 = some (tyX1 k) := by decide +kernel
abbrev cX1_init : ByteArray := prog_3_method_1_code
def yX1_init : MethodName := ⟨RX1, "<init>", "()V"⟩
abbrev cX1_read : ByteArray := prog_3_method_2_code
def yX1_read : MethodName := ⟨RX1, "read", "(LStreamRemuxer$Row;ILStreamRemuxer$PacketList;)V"⟩
abbrev cX1_fail : ByteArray := prog_3_method_3_code
def yX1_fail : MethodName := ⟨RX1, "fail", "(II)I"⟩
abbrev cX1_openLevel : ByteArray := prog_3_method_4_code
def yX1_openLevel : MethodName := ⟨RX1, "openLevel", "(IIII)I"⟩
abbrev cX1_closeLevel : ByteArray := prog_3_method_5_code
def yX1_closeLevel : MethodName := ⟨RX1, "closeLevel", "(LStreamRemuxer$Level;I)I"⟩
abbrev cX1_readElement : ByteArray := prog_3_method_6_code
def yX1_readElement : MethodName := ⟨RX1, "readElement", "(LStreamRemuxer$Level;I)I"⟩
abbrev cX1_column : ByteArray := prog_3_method_7_code
def yX1_column : MethodName := ⟨RX1, "column", "(II)J"⟩
abbrev cX1_rowOf : ByteArray := prog_3_method_8_code
def yX1_rowOf : MethodName := ⟨RX1, "rowOf", "(II)I"⟩
abbrev cX1_lacksSome : ByteArray := prog_3_method_9_code
def yX1_lacksSome : MethodName := ⟨RX1, "lacksSome", "(II)Z"⟩
abbrev cX1_mayStand : ByteArray := prog_3_method_10_code
def yX1_mayStand : MethodName := ⟨RX1, "mayStand", "(II)Z"⟩
abbrev cX1_isSeen : ByteArray := prog_3_method_11_code
def yX1_isSeen : MethodName := ⟨RX1, "isSeen", "(III)Z"⟩
abbrev cX1_markedWidth : ByteArray := prog_3_method_12_code
def yX1_markedWidth : MethodName := ⟨RX1, "markedWidth", "(I)I"⟩
abbrev cX1_readId : ByteArray := prog_3_method_13_code
def yX1_readId : MethodName := ⟨RX1, "readId", "(II)I"⟩
abbrev cX1_sizeWidth : ByteArray := prog_3_method_14_code
def yX1_sizeWidth : MethodName := ⟨RX1, "sizeWidth", "(II)I"⟩
abbrev cX1_sizeNumber : ByteArray := prog_3_method_15_code
def yX1_sizeNumber : MethodName := ⟨RX1, "sizeNumber", "(II)J"⟩
abbrev cX1_readSize : ByteArray := prog_3_method_16_code
def yX1_readSize : MethodName := ⟨RX1, "readSize", "(IIII)I"⟩
abbrev cX1_readUint : ByteArray := prog_3_method_17_code
def yX1_readUint : MethodName := ⟨RX1, "readUint", "(IIII)I"⟩
abbrev cX1_isDocumentName : ByteArray := prog_3_method_18_code
def yX1_isDocumentName : MethodName := ⟨RX1, "isDocumentName", "(II)Z"⟩
abbrev cX1_readBlock : ByteArray := prog_3_method_19_code
def yX1_readBlock : MethodName := ⟨RX1, "readBlock", "(IIII)I"⟩
abbrev cX1_takePackets : ByteArray := prog_3_method_20_code
def yX1_takePackets : MethodName := ⟨RX1, "takePackets", "(IJ)V"⟩
abbrev cX1_readLacing : ByteArray := prog_3_method_21_code
def yX1_readLacing : MethodName := ⟨RX1, "readLacing", "(III)I"⟩
abbrev cX1_shareAlike : ByteArray := prog_3_method_22_code
def yX1_shareAlike : MethodName := ⟨RX1, "shareAlike", "(II)I"⟩
abbrev cX1_readSummedSize : ByteArray := prog_3_method_23_code
def yX1_readSummedSize : MethodName := ⟨RX1, "readSummedSize", "(I)J"⟩
abbrev cX1_readSizeOrDifference : ByteArray := prog_3_method_24_code
def yX1_readSizeOrDifference : MethodName := ⟨RX1, "readSizeOrDifference", "(II)J"⟩
def RX2 : String := "StreamRemuxer$ElementWriter"
def TX2 : u_T := fun k => match k with
  | 0 => ("StreamRemuxer$ElementWriter", "blockHeader", "LStreamRemuxer$Row;", true)
  | 1 => ("StreamRemuxer$ElementWriter", "source", "LStreamRemuxer$PacketList;", false)
  | 2 => ("StreamRemuxer$ElementWriter", "target", "LStreamRemuxer$Row;", false)
  | 3 => ("StreamRemuxer$ElementWriter", "lace", "I", false)
  | 4 => ("StreamRemuxer$ElementWriter", "mostPackets", "I", false)
  | _ => ("StreamRemuxer$ElementWriter", "unknownSizes", "Z", false)
def tyX2 : Nat → FieldType := fun k => match k with
  | 0 => .object "StreamRemuxer$Row"
  | 1 => .object "StreamRemuxer$PacketList"
  | 2 => .object "StreamRemuxer$Row"
  | 3 => .int
  | 4 => .int
  | _ => .boolean
abbrev wsX20 : List Cond := u_ws RX2 TX2 6
theorem nmX2 : ∀ a, a < 6 → ∀ b, b < 6 → a ≠ b → (TX2 a).2.1 ≠ (TX2 b).2.1 := by decide +kernel
theorem tyX2_ok : ∀ k, k < 6 → parseFieldDescriptor (TX2 k).2.2.1 = some (tyX2 k) := by decide +kernel
abbrev cX2_init : ByteArray := prog_4_method_1_code
def yX2_init : MethodName := ⟨RX2, "<init>", "()V"⟩
abbrev cX2_write : ByteArray := prog_4_method_2_code
def yX2_write : MethodName := ⟨RX2, "write", "(LStreamRemuxer$PacketList;LStreamRemuxer$Row;IIIZ)V"⟩
abbrev cX2_putClusters : ByteArray := prog_4_method_3_code
def yX2_putClusters : MethodName := ⟨RX2, "putClusters", "(I)V"⟩
abbrev cX2_fitsBlock : ByteArray := prog_4_method_4_code
def yX2_fitsBlock : MethodName := ⟨RX2, "fitsBlock", "(J)Z"⟩
abbrev cX2_beginLongElement : ByteArray := prog_4_method_5_code
def yX2_beginLongElement : MethodName := ⟨RX2, "beginLongElement", "(I)I"⟩
abbrev cX2_endLongElement : ByteArray := prog_4_method_6_code
def yX2_endLongElement : MethodName := ⟨RX2, "endLongElement", "(I)V"⟩
abbrev cX2_putClusterTime : ByteArray := prog_4_method_7_code
def yX2_putClusterTime : MethodName := ⟨RX2, "putClusterTime", "(J)V"⟩
abbrev cX2_packetsOfBlock : ByteArray := prog_4_method_8_code
def yX2_packetsOfBlock : MethodName := ⟨RX2, "packetsOfBlock", "(I)I"⟩
abbrev cX2_putBlock : ByteArray := prog_4_method_9_code
def yX2_putBlock : MethodName := ⟨RX2, "putBlock", "(IIJ)V"⟩
abbrev cX2_putSummedSize : ByteArray := prog_4_method_10_code
def yX2_putSummedSize : MethodName := ⟨RX2, "putSummedSize", "(I)V"⟩
abbrev cX2_putDifference : ByteArray := prog_4_method_11_code
def yX2_putDifference : MethodName := ⟨RX2, "putDifference", "(J)V"⟩
abbrev cX2_putSize : ByteArray := prog_4_method_12_code
def yX2_putSize : MethodName := ⟨RX2, "putSize", "(LStreamRemuxer$Row;J)V"⟩
def RX3 : String := "StreamRemuxer$Level"
def TX3 : u_T := fun k => match k with
  | 0 => ("StreamRemuxer$Level", "id", "I", false)
  | 1 => ("StreamRemuxer$Level", "missingPlace", "I", false)
  | 2 => ("StreamRemuxer$Level", "end", "I", false)
  | 3 => ("StreamRemuxer$Level", "seen", "I", false)
  | _ => ("StreamRemuxer$Level", "tillCluster", "Z", false)
def tyX3 : Nat → FieldType := fun k => match k with
  | 0 => .int
  | 1 => .int
  | 2 => .int
  | 3 => .int
  | _ => .boolean
abbrev wsX30 : List Cond := u_ws RX3 TX3 5
theorem nmX3 : ∀ a, a < 5 → ∀ b, b < 5 → a ≠ b → (TX3 a).2.1 ≠ (TX3 b).2.1 := by decide +kernel
theorem tyX3_ok : ∀ k, k < 5 → parseFieldDescriptor (TX3 k).2.2.1 = some (tyX3 k) := by decide +kernel
abbrev cX3_init : ByteArray := prog_5_method_1_code
def yX3_init : MethodName := ⟨RX3, "<init>", "()V"⟩
def RX4 : String := "StreamRemuxer$PacketList"
def TX4 : u_T := fun k => match k with
  | 0 => ("StreamRemuxer$PacketList", "bytes", "LStreamRemuxer$Row;", true)
  | 1 => ("StreamRemuxer$PacketList", "ends", "[I", true)
  | 2 => ("StreamRemuxer$PacketList", "times", "[J", true)
  | _ => ("StreamRemuxer$PacketList", "packets", "I", false)
def tyX4 : Nat → FieldType := fun k => match k with
  | 0 => .object "StreamRemuxer$Row"
  | 1 => .array .int
  | 2 => .array .long
  | _ => .int
abbrev wsX40 : List Cond := u_ws RX4 TX4 4
theorem nmX4 : ∀ a, a < 4 → ∀ b, b < 4 → a ≠ b → (TX4 a).2.1 ≠ (TX4 b).2.1 := by decide +kernel
theorem tyX4_ok : ∀ k, k < 4 → parseFieldDescriptor (TX4 k).2.2.1 = some (tyX4 k) := by decide +kernel
abbrev cX4_init : ByteArray := prog_6_method_1_code
def yX4_init : MethodName := ⟨RX4, "<init>", "()V"⟩
abbrev cX4_empty : ByteArray := prog_6_method_2_code
def yX4_empty : MethodName := ⟨RX4, "empty", "()V"⟩
abbrev cX4_holds : ByteArray := prog_6_method_3_code
def yX4_holds : MethodName := ⟨RX4, "holds", "(I)Z"⟩
abbrev cX4_beginOf : ByteArray := prog_6_method_4_code
def yX4_beginOf : MethodName := ⟨RX4, "beginOf", "(I)I"⟩
abbrev cX4_bytesOf : ByteArray := prog_6_method_5_code
def yX4_bytesOf : MethodName := ⟨RX4, "bytesOf", "(I)I"⟩
abbrev cX4_byteOf : ByteArray := prog_6_method_6_code
def yX4_byteOf : MethodName := ⟨RX4, "byteOf", "(II)I"⟩
abbrev cX4_timeOf : ByteArray := prog_6_method_7_code
def yX4_timeOf : MethodName := ⟨RX4, "timeOf", "(I)J"⟩
abbrev cX4_timeToWrite : ByteArray := prog_6_method_8_code
def yX4_timeToWrite : MethodName := ⟨RX4, "timeToWrite", "(I)J"⟩
abbrev cX4_isInOrderOfTime : ByteArray := prog_6_method_9_code
def yX4_isInOrderOfTime : MethodName := ⟨RX4, "isInOrderOfTime", "()Z"⟩
abbrev cX4_hasRoom : ByteArray := prog_6_method_10_code
def yX4_hasRoom : MethodName := ⟨RX4, "hasRoom", "(II)Z"⟩
abbrev cX4_endPacket : ByteArray := prog_6_method_11_code
def yX4_endPacket : MethodName := ⟨RX4, "endPacket", "(J)V"⟩
def RX5 : String := "StreamRemuxer$PageForm"
def TX5 : u_T := fun k => match k with
  | _ => ("", "", "", false)
def tyX5 : Nat → FieldType := fun k => match k with
  | _ => .int
abbrev wsX50 : List Cond := u_ws RX5 TX5 0
theorem nmX5 : ∀ a, a < 0 → ∀ b, b < 0 → a ≠ b → (TX5 a).2.1 ≠ (TX5 b).2.1 := by decide +kernel
theorem tyX5_ok : ∀ k, k < 0 → parseFieldDescriptor (TX5 k).2.2.1 = some (tyX5 k) := by decide +kernel
abbrev cX5_isMarked : ByteArray := prog_7_method_2_code
def yX5_isMarked : MethodName := ⟨RX5, "isMarked", "(LStreamRemuxer$Row;I)Z"⟩
abbrev cX5_endOf : ByteArray := prog_7_method_3_code
def yX5_endOf : MethodName := ⟨RX5, "endOf", "(LStreamRemuxer$Row;II)I"⟩
abbrev cX5_sumOf : ByteArray := prog_7_method_4_code
def yX5_sumOf : MethodName := ⟨RX5, "sumOf", "(LStreamRemuxer$Row;II)I"⟩
abbrev cX5_makeSumRight : ByteArray := prog_7_method_5_code
def yX5_makeSumRight : MethodName := ⟨RX5, "makeSumRight", "(LStreamRemuxer$Row;II)V"⟩
def RX6 : String := "StreamRemuxer$PageReader"
def TX6 : u_T := fun k => match k with
  | 0 => ("StreamRemuxer$PageReader", "fault", "I", false)
  | 1 => ("StreamRemuxer$PageReader", "place", "I", false)
  | 2 => ("StreamRemuxer$PageReader", "pageCount", "I", false)
  | 3 => ("StreamRemuxer$PageReader", "file", "LStreamRemuxer$Row;", false)
  | 4 => ("StreamRemuxer$PageReader", "limit", "I", false)
  | 5 => ("StreamRemuxer$PageReader", "target", "LStreamRemuxer$PacketList;", false)
  | 6 => ("StreamRemuxer$PageReader", "packetIsOpen", "Z", false)
  | 7 => ("StreamRemuxer$PageReader", "lastWasRead", "Z", false)
  | 8 => ("StreamRemuxer$PageReader", "serial", "I", false)
  | _ => ("StreamRemuxer$PageReader", "latestTime", "J", false)
def tyX6 : Nat → FieldType := fun k => match k with
  | 0 => .int
  | 1 => .int
  | 2 => .int
  | 3 => .object "StreamRemuxer$Row"
  | 4 => .int
  | 5 => .object "StreamRemuxer$PacketList"
  | 6 => .boolean
  | 7 => .boolean
  | 8 => .int
  | _ => .long
abbrev wsX60 : List Cond := u_ws RX6 TX6 10
theorem nmX6 : ∀ a, a < 10 → ∀ b, b < 10 → a ≠ b → (TX6 a).2.1 ≠ (TX6 b).2.1 := by decide +kernel
theorem tyX6_ok : ∀ k, k < 10 → parseFieldDescriptor (TX6 k).2.2.1 = some (tyX6 k) := by decide +kernel
abbrev cX6_init : ByteArray := prog_8_method_1_code
def yX6_init : MethodName := ⟨RX6, "<init>", "()V"⟩
abbrev cX6_read : ByteArray := prog_8_method_2_code
def yX6_read : MethodName := ⟨RX6, "read", "(LStreamRemuxer$Row;ILStreamRemuxer$PacketList;)V"⟩
abbrev cX6_faultAtEnd : ByteArray := prog_8_method_3_code
def yX6_faultAtEnd : MethodName := ⟨RX6, "faultAtEnd", "()I"⟩
abbrev cX6_faultOf : ByteArray := prog_8_method_4_code
def yX6_faultOf : MethodName := ⟨RX6, "faultOf", "(I)I"⟩
abbrev cX6_numberAt : ByteArray := prog_8_method_5_code
def yX6_numberAt : MethodName := ⟨RX6, "numberAt", "(I)I"⟩
abbrev cX6_isOutOfOrder : ByteArray := prog_8_method_6_code
def yX6_isOutOfOrder : MethodName := ⟨RX6, "isOutOfOrder", "(II)Z"⟩
abbrev cX6_packetsEnding : ByteArray := prog_8_method_7_code
def yX6_packetsEnding : MethodName := ⟨RX6, "packetsEnding", "(I)I"⟩
abbrev cX6_isTimeWrong : ByteArray := prog_8_method_8_code
def yX6_isTimeWrong : MethodName := ⟨RX6, "isTimeWrong", "(JI)Z"⟩
abbrev cX6_takePage : ByteArray := prog_8_method_9_code
def yX6_takePage : MethodName := ⟨RX6, "takePage", "(I)I"⟩
def RX7 : String := "StreamRemuxer$PageWriter"
def TX7 : u_T := fun k => match k with
  | 0 => ("StreamRemuxer$PageWriter", "segmentSizes", "[I", true)
  | 1 => ("StreamRemuxer$PageWriter", "source", "LStreamRemuxer$PacketList;", false)
  | 2 => ("StreamRemuxer$PageWriter", "target", "LStreamRemuxer$Row;", false)
  | 3 => ("StreamRemuxer$PageWriter", "serial", "I", false)
  | 4 => ("StreamRemuxer$PageWriter", "number", "I", false)
  | 5 => ("StreamRemuxer$PageWriter", "segments", "I", false)
  | 6 => ("StreamRemuxer$PageWriter", "packetsEnded", "I", false)
  | 7 => ("StreamRemuxer$PageWriter", "lastEnded", "I", false)
  | 8 => ("StreamRemuxer$PageWriter", "written", "I", false)
  | _ => ("StreamRemuxer$PageWriter", "goesOn", "Z", false)
def tyX7 : Nat → FieldType := fun k => match k with
  | 0 => .array .int
  | 1 => .object "StreamRemuxer$PacketList"
  | 2 => .object "StreamRemuxer$Row"
  | 3 => .int
  | 4 => .int
  | 5 => .int
  | 6 => .int
  | 7 => .int
  | 8 => .int
  | _ => .boolean
abbrev wsX70 : List Cond := u_ws RX7 TX7 10
theorem nmX7 : ∀ a, a < 10 → ∀ b, b < 10 → a ≠ b → (TX7 a).2.1 ≠ (TX7 b).2.1 := by decide +kernel
theorem tyX7_ok : ∀ k, k < 10 → parseFieldDescriptor (TX7 k).2.2.1 = some (tyX7 k) := by decide +kernel
abbrev cX7_init : ByteArray := prog_9_method_1_code
def yX7_init : MethodName := ⟨RX7, "<init>", "()V"⟩
abbrev cX7_write : ByteArray := prog_9_method_2_code
def yX7_write : MethodName := ⟨RX7, "write", "(LStreamRemuxer$PacketList;LStreamRemuxer$Row;III)V"⟩
abbrev cX7_beginPage : ByteArray := prog_9_method_3_code
def yX7_beginPage : MethodName := ⟨RX7, "beginPage", "()V"⟩
abbrev cX7_addSegment : ByteArray := prog_9_method_4_code
def yX7_addSegment : MethodName := ⟨RX7, "addSegment", "(I)V"⟩
abbrev cX7_endPage : ByteArray := prog_9_method_5_code
def yX7_endPage : MethodName := ⟨RX7, "endPage", "(ZZ)V"⟩
abbrev cX7_putHeader : ByteArray := prog_9_method_6_code
def yX7_putHeader : MethodName := ⟨RX7, "putHeader", "(Z)V"⟩
def RX8 : String := "StreamRemuxer$Row"
def TX8 : u_T := fun k => match k with
  | 0 => ("StreamRemuxer$Row", "words", "[I", true)
  | 1 => ("StreamRemuxer$Row", "most", "I", true)
  | 2 => ("StreamRemuxer$Row", "length", "I", false)
  | _ => ("StreamRemuxer$Row", "overfull", "Z", false)
def tyX8 : Nat → FieldType := fun k => match k with
  | 0 => .array .int
  | 1 => .int
  | 2 => .int
  | _ => .boolean
abbrev wsX80 : List Cond := u_ws RX8 TX8 4
theorem nmX8 : ∀ a, a < 4 → ∀ b, b < 4 → a ≠ b → (TX8 a).2.1 ≠ (TX8 b).2.1 := by decide +kernel
theorem tyX8_ok : ∀ k, k < 4 → parseFieldDescriptor (TX8 k).2.2.1 = some (tyX8 k) := by decide +kernel
abbrev cX8_init : ByteArray := prog_10_method_1_code
def yX8_init : MethodName := ⟨RX8, "<init>", "(I)V"⟩
abbrev cX8_empty : ByteArray := prog_10_method_2_code
def yX8_empty : MethodName := ⟨RX8, "empty", "()V"⟩
abbrev cX8_at : ByteArray := prog_10_method_3_code
def yX8_at : MethodName := ⟨RX8, "at", "(I)I"⟩
abbrev cX8_change : ByteArray := prog_10_method_4_code
def yX8_change : MethodName := ⟨RX8, "change", "(II)Z"⟩
abbrev cX8_add : ByteArray := prog_10_method_5_code
def yX8_add : MethodName := ⟨RX8, "add", "(I)V"⟩
abbrev cX8_addHighFirst : ByteArray := prog_10_method_6_code
def yX8_addHighFirst : MethodName := ⟨RX8, "addHighFirst", "(JI)V"⟩
abbrev cX8_addLowFirst : ByteArray := prog_10_method_7_code
def yX8_addLowFirst : MethodName := ⟨RX8, "addLowFirst", "(JI)V"⟩
abbrev cX8_addEach : ByteArray := prog_10_method_8_code
def yX8_addEach : MethodName := ⟨RX8, "addEach", "([I)V"⟩
abbrev cX8_addPart : ByteArray := prog_10_method_9_code
def yX8_addPart : MethodName := ⟨RX8, "addPart", "(LStreamRemuxer$Row;II)V"⟩
abbrev cX8_becomeLike : ByteArray := prog_10_method_10_code
def yX8_becomeLike : MethodName := ⟨RX8, "becomeLike", "(LStreamRemuxer$Row;)V"⟩
abbrev cX8_highFirst : ByteArray := prog_10_method_11_code
def yX8_highFirst : MethodName := ⟨RX8, "highFirst", "(II)J"⟩
abbrev cX8_lowFirst : ByteArray := prog_10_method_12_code
def yX8_lowFirst : MethodName := ⟨RX8, "lowFirst", "(II)J"⟩
def RX9 : String := "StreamRemuxer"
def TX9 : u_T := fun k => match k with
  | 0 => ("StreamRemuxer", "tape", "LStreamRemuxer$Row;", true)
  | 1 => ("StreamRemuxer", "pageWriter", "LStreamRemuxer$PageWriter;", true)
  | 2 => ("StreamRemuxer", "pageReader", "LStreamRemuxer$PageReader;", true)
  | 3 => ("StreamRemuxer", "elementWriter", "LStreamRemuxer$ElementWriter;", true)
  | 4 => ("StreamRemuxer", "elementReader", "LStreamRemuxer$ElementReader;", true)
  | 5 => ("StreamRemuxer", "outRow", "LStreamRemuxer$Row;", false)
  | 6 => ("StreamRemuxer", "spareRow", "LStreamRemuxer$Row;", false)
  | 7 => ("StreamRemuxer", "list", "LStreamRemuxer$PacketList;", false)
  | 8 => ("StreamRemuxer", "spareList", "LStreamRemuxer$PacketList;", false)
  | 9 => ("StreamRemuxer", "fault", "I", false)
  | 10 => ("StreamRemuxer", "faultPlace", "I", false)
  | 11 => ("StreamRemuxer", "pagesRead", "I", false)
  | 12 => ("StreamRemuxer", "clustersRead", "I", false)
  | _ => ("StreamRemuxer", "blocksRead", "I", false)
def tyX9 : Nat → FieldType := fun k => match k with
  | 0 => .object "StreamRemuxer$Row"
  | 1 => .object "StreamRemuxer$PageWriter"
  | 2 => .object "StreamRemuxer$PageReader"
  | 3 => .object "StreamRemuxer$ElementWriter"
  | 4 => .object "StreamRemuxer$ElementReader"
  | 5 => .object "StreamRemuxer$Row"
  | 6 => .object "StreamRemuxer$Row"
  | 7 => .object "StreamRemuxer$PacketList"
  | 8 => .object "StreamRemuxer$PacketList"
  | 9 => .int
  | 10 => .int
  | 11 => .int
  | 12 => .int
  | _ => .int
abbrev wsX90 : List Cond := u_ws RX9 TX9 14
theorem nmX9 : ∀ a, a < 14 → ∀ b, b < 14 → a ≠ b → (TX9 a).2.1 ≠ (TX9 b).2.1 := by decide +kernel
theorem tyX9_ok : ∀ k, k < 14 → parseFieldDescriptor (TX9 k).2.2.1 = some (tyX9 k) := by decide +kernel
abbrev cX9_init : ByteArray := prog_1_method_1_code
def yX9_init : MethodName := ⟨RX9, "<init>", "()V"⟩
abbrev cX9_feed : ByteArray := prog_1_method_2_code
def yX9_feed : MethodName := ⟨RX9, "feed", "(IIIII)I"⟩
abbrev cX9_packet : ByteArray := prog_1_method_3_code
def yX9_packet : MethodName := ⟨RX9, "packet", "(IJ)I"⟩
abbrev cX9_clear : ByteArray := prog_1_method_4_code
def yX9_clear : MethodName := ⟨RX9, "clear", "()I"⟩
abbrev cX9_pages : ByteArray := prog_1_method_5_code
def yX9_pages : MethodName := ⟨RX9, "pages", "(III)I"⟩
abbrev cX9_elements : ByteArray := prog_1_method_6_code
def yX9_elements : MethodName := ⟨RX9, "elements", "(IIIZ)I"⟩
abbrev cX9_readPages : ByteArray := prog_1_method_7_code
def yX9_readPages : MethodName := ⟨RX9, "readPages", "(I)I"⟩
abbrev cX9_readElements : ByteArray := prog_1_method_8_code
def yX9_readElements : MethodName := ⟨RX9, "readElements", "(I)I"⟩
abbrev cX9_wrong : ByteArray := prog_1_method_9_code
def yX9_wrong : MethodName := ⟨RX9, "wrong", "(I)I"⟩
abbrev cX9_turn : ByteArray := prog_1_method_10_code
def yX9_turn : MethodName := ⟨RX9, "turn", "()I"⟩
abbrev cX9_count : ByteArray := prog_1_method_11_code
def yX9_count : MethodName := ⟨RX9, "count", "(I)I"⟩
abbrev cX9_size : ByteArray := prog_1_method_12_code
def yX9_size : MethodName := ⟨RX9, "size", "(I)I"⟩
abbrev cX9_time : ByteArray := prog_1_method_13_code
def yX9_time : MethodName := ⟨RX9, "time", "(I)J"⟩
abbrev cX9_octet : ByteArray := prog_1_method_14_code
def yX9_octet : MethodName := ⟨RX9, "octet", "(II)I"⟩
abbrev cX9_out : ByteArray := prog_1_method_15_code
def yX9_out : MethodName := ⟨RX9, "out", "(I)I"⟩
abbrev cX9_patch : ByteArray := prog_1_method_16_code
def yX9_patch : MethodName := ⟨RX9, "patch", "(II)Z"⟩
abbrev cX9_sum : ByteArray := prog_1_method_17_code
def yX9_sum : MethodName := ⟨RX9, "sum", "(I)Z"⟩
abbrev cX9_isOnTape : ByteArray := prog_1_method_18_code
def yX9_isOnTape : MethodName := ⟨RX9, "isOnTape", "(I)Z"⟩
abbrev cX9_takeSpareRow : ByteArray := prog_1_method_19_code
def yX9_takeSpareRow : MethodName := ⟨RX9, "takeSpareRow", "()I"⟩
abbrev cX9_takeSpareList : ByteArray := prog_1_method_20_code
def yX9_takeSpareList : MethodName := ⟨RX9, "takeSpareList", "()I"⟩
def RX10 : String := "StreamRemuxerModel"
def TX10 : u_T := fun k => match k with
  | 0 => ("StreamRemuxerModel", "tape", "[B", true)
  | 1 => ("StreamRemuxerModel", "out", "[B", true)
  | 2 => ("StreamRemuxerModel", "draft", "[B", true)
  | 3 => ("StreamRemuxerModel", "taped", "I", false)
  | 4 => ("StreamRemuxerModel", "outMany", "I", false)
  | 5 => ("StreamRemuxerModel", "drafted", "I", false)
  | 6 => ("StreamRemuxerModel", "full", "Z", false)
  | 7 => ("StreamRemuxerModel", "size", "[I", true)
  | 8 => ("StreamRemuxerModel", "readSize", "[I", true)
  | 9 => ("StreamRemuxerModel", "time", "[J", true)
  | 10 => ("StreamRemuxerModel", "readTime", "[J", true)
  | 11 => ("StreamRemuxerModel", "bytes", "[B", true)
  | 12 => ("StreamRemuxerModel", "readBytes", "[B", true)
  | 13 => ("StreamRemuxerModel", "many", "I", false)
  | 14 => ("StreamRemuxerModel", "total", "I", false)
  | 15 => ("StreamRemuxerModel", "readMany", "I", false)
  | 16 => ("StreamRemuxerModel", "readTotal", "I", false)
  | 17 => ("StreamRemuxerModel", "fault", "I", false)
  | 18 => ("StreamRemuxerModel", "faultAt", "I", false)
  | 19 => ("StreamRemuxerModel", "told", "I", false)
  | 20 => ("StreamRemuxerModel", "toldAt", "I", false)
  | 21 => ("StreamRemuxerModel", "pageCount", "I", false)
  | 22 => ("StreamRemuxerModel", "clusterCount", "I", false)
  | 23 => ("StreamRemuxerModel", "blockCount", "I", false)
  | 24 => ("StreamRemuxerModel", "pages", "I", false)
  | 25 => ("StreamRemuxerModel", "clusters", "I", false)
  | 26 => ("StreamRemuxerModel", "blocks", "I", false)
  | 27 => ("StreamRemuxerModel", "serial", "I", false)
  | 28 => ("StreamRemuxerModel", "lastNumber", "I", false)
  | 29 => ("StreamRemuxerModel", "openBytes", "I", false)
  | 30 => ("StreamRemuxerModel", "isLast", "Z", false)
  | 31 => ("StreamRemuxerModel", "lastTime", "J", false)
  | 32 => ("StreamRemuxerModel", "number", "I", false)
  | 33 => ("StreamRemuxerModel", "clusterTime", "J", false)
  | 34 => ("StreamRemuxerModel", "hasTime", "Z", false)
  | 35 => ("StreamRemuxerModel", "inCluster", "Z", false)
  | 36 => ("StreamRemuxerModel", "id", "I", false)
  | 37 => ("StreamRemuxerModel", "from", "I", false)
  | 38 => ("StreamRemuxerModel", "to", "I", false)
  | 39 => ("StreamRemuxerModel", "unknown", "Z", false)
  | 40 => ("StreamRemuxerModel", "over", "I", false)
  | 41 => ("StreamRemuxerModel", "sizes", "[I", true)
  | 42 => ("StreamRemuxerModel", "headRow", "[B", true)
  | 43 => ("StreamRemuxerModel", "infoRow", "[B", true)
  | 44 => ("StreamRemuxerModel", "tracksRow", "[B", true)
  | _ => ("StreamRemuxerModel", "codecRow", "[B", true)
def tyX10 : Nat → FieldType := fun k => match k with
  | 0 => .array .byte
  | 1 => .array .byte
  | 2 => .array .byte
  | 3 => .int
  | 4 => .int
  | 5 => .int
  | 6 => .boolean
  | 7 => .array .int
  | 8 => .array .int
  | 9 => .array .long
  | 10 => .array .long
  | 11 => .array .byte
  | 12 => .array .byte
  | 13 => .int
  | 14 => .int
  | 15 => .int
  | 16 => .int
  | 17 => .int
  | 18 => .int
  | 19 => .int
  | 20 => .int
  | 21 => .int
  | 22 => .int
  | 23 => .int
  | 24 => .int
  | 25 => .int
  | 26 => .int
  | 27 => .int
  | 28 => .int
  | 29 => .int
  | 30 => .boolean
  | 31 => .long
  | 32 => .int
  | 33 => .long
  | 34 => .boolean
  | 35 => .boolean
  | 36 => .int
  | 37 => .int
  | 38 => .int
  | 39 => .boolean
  | 40 => .int
  | 41 => .array .int
  | 42 => .array .byte
  | 43 => .array .byte
  | 44 => .array .byte
  | _ => .array .byte
abbrev wsX100 : List Cond := u_ws RX10 TX10 46
theorem nmX10 : ∀ a, a < 46 → ∀ b, b < 46 → a ≠ b → (TX10 a).2.1 ≠ (TX10 b).2.1 := by decide +kernel
theorem tyX10_ok : ∀ k, k < 46 → parseFieldDescriptor (TX10 k).2.2.1 = some (tyX10 k) := by decide +kernel
abbrev cX10_init : ByteArray := prog_12_method_1_code
def yX10_init : MethodName := ⟨RX10, "<init>", "()V"⟩
abbrev cX10_feed : ByteArray := prog_12_method_2_code
def yX10_feed : MethodName := ⟨RX10, "feed", "(IIIII)I"⟩
abbrev cX10_four : ByteArray := prog_12_method_3_code
def yX10_four : MethodName := ⟨RX10, "four", "(I)V"⟩
abbrev cX10_at : ByteArray := prog_12_method_4_code
def yX10_at : MethodName := ⟨RX10, "at", "(I)I"⟩
abbrev cX10_packet : ByteArray := prog_12_method_5_code
def yX10_packet : MethodName := ⟨RX10, "packet", "(IJ)I"⟩
abbrev cX10_clear : ByteArray := prog_12_method_6_code
def yX10_clear : MethodName := ⟨RX10, "clear", "()I"⟩
abbrev cX10_timeOf : ByteArray := prog_12_method_7_code
def yX10_timeOf : MethodName := ⟨RX10, "timeOf", "(I)J"⟩
abbrev cX10_takeList : ByteArray := prog_12_method_8_code
def yX10_takeList : MethodName := ⟨RX10, "takeList", "()V"⟩
abbrev cX10_put : ByteArray := prog_12_method_9_code
def yX10_put : MethodName := ⟨RX10, "put", "(I)V"⟩
abbrev cX10_putLow : ByteArray := prog_12_method_10_code
def yX10_putLow : MethodName := ⟨RX10, "putLow", "(JI)V"⟩
abbrev cX10_putHigh : ByteArray := prog_12_method_11_code
def yX10_putHigh : MethodName := ⟨RX10, "putHigh", "(JI)V"⟩
abbrev cX10_putRow : ByteArray := prog_12_method_12_code
def yX10_putRow : MethodName := ⟨RX10, "putRow", "([B)V"⟩
abbrev cX10_drawn : ByteArray := prog_12_method_13_code
def yX10_drawn : MethodName := ⟨RX10, "drawn", "()I"⟩
abbrev cX10_sumOf : ByteArray := prog_12_method_14_code
def yX10_sumOf : MethodName := ⟨RX10, "sumOf", "([BII)I"⟩
abbrev cX10_putSum : ByteArray := prog_12_method_15_code
def yX10_putSum : MethodName := ⟨RX10, "putSum", "([BII)V"⟩
abbrev cX10_pages : ByteArray := prog_12_method_16_code
def yX10_pages : MethodName := ⟨RX10, "pages", "(III)I"⟩
abbrev cX10_segmentsFrom : ByteArray := prog_12_method_17_code
def yX10_segmentsFrom : MethodName := ⟨RX10, "segmentsFrom", "(III)V"⟩
abbrev cX10_fails : ByteArray := prog_12_method_18_code
def yX10_fails : MethodName := ⟨RX10, "fails", "(II)Z"⟩
abbrev cX10_low : ByteArray := prog_12_method_19_code
def yX10_low : MethodName := ⟨RX10, "low", "(II)J"⟩
abbrev cX10_begin : ByteArray := prog_12_method_20_code
def yX10_begin : MethodName := ⟨RX10, "begin", "()V"⟩
abbrev cX10_ends : ByteArray := prog_12_method_21_code
def yX10_ends : MethodName := ⟨RX10, "ends", "(I)I"⟩
abbrev cX10_readPages : ByteArray := prog_12_method_22_code
def yX10_readPages : MethodName := ⟨RX10, "readPages", "(I)I"⟩
abbrev cX10_lengthOf : ByteArray := prog_12_method_23_code
def yX10_lengthOf : MethodName := ⟨RX10, "lengthOf", "(I)I"⟩
abbrev cX10_isMark : ByteArray := prog_12_method_24_code
def yX10_isMark : MethodName := ⟨RX10, "isMark", "(I)Z"⟩
abbrev cX10_isWhole : ByteArray := prog_12_method_25_code
def yX10_isWhole : MethodName := ⟨RX10, "isWhole", "(II)Z"⟩
abbrev cX10_page : ByteArray := prog_12_method_26_code
def yX10_page : MethodName := ⟨RX10, "page", "(II)Z"⟩
abbrev cX10_packets : ByteArray := prog_12_method_27_code
def yX10_packets : MethodName := ⟨RX10, "packets", "(IIIII)Z"⟩
abbrev cX10_lengthBy : ByteArray := prog_12_method_28_code
def yX10_lengthBy : MethodName := ⟨RX10, "lengthBy", "(I)I"⟩
abbrev cX10_sizeAt : ByteArray := prog_12_method_29_code
def yX10_sizeAt : MethodName := ⟨RX10, "sizeAt", "(II)J"⟩
abbrev cX10_name : ByteArray := prog_12_method_30_code
def yX10_name : MethodName := ⟨RX10, "name", "(IIII)Z"⟩
abbrev cX10_head : ByteArray := prog_12_method_31_code
def yX10_head : MethodName := ⟨RX10, "head", "(III)Z"⟩
abbrev cX10_mayStand : ByteArray := prog_12_method_32_code
def yX10_mayStand : MethodName := ⟨RX10, "mayStand", "(II)Z"⟩
abbrev cX10_bitOfHead : ByteArray := prog_12_method_33_code
def yX10_bitOfHead : MethodName := ⟨RX10, "bitOfHead", "()I"⟩
abbrev cX10_bit : ByteArray := prog_12_method_34_code
def yX10_bit : MethodName := ⟨RX10, "bit", "(I)I"⟩
abbrev cX10_elements : ByteArray := prog_12_method_35_code
def yX10_elements : MethodName := ⟨RX10, "elements", "(IIIIZ)Z"⟩
abbrev cX10_isCluster : ByteArray := prog_12_method_36_code
def yX10_isCluster : MethodName := ⟨RX10, "isCluster", "(II)Z"⟩
abbrev cX10_sortOf : ByteArray := prog_12_method_37_code
def yX10_sortOf : MethodName := ⟨RX10, "sortOf", "()I"⟩
abbrev cX10_has : ByteArray := prog_12_method_38_code
def yX10_has : MethodName := ⟨RX10, "has", "(III)Z"⟩
abbrev cX10_uint : ByteArray := prog_12_method_39_code
def yX10_uint : MethodName := ⟨RX10, "uint", "()J"⟩
abbrev cX10_isWithin : ByteArray := prog_12_method_40_code
def yX10_isWithin : MethodName := ⟨RX10, "isWithin", "(IJJ)Z"⟩
abbrev cX10_plain : ByteArray := prog_12_method_41_code
def yX10_plain : MethodName := ⟨RX10, "plain", "(I)Z"⟩
abbrev cX10_isMatroska : ByteArray := prog_12_method_42_code
def yX10_isMatroska : MethodName := ⟨RX10, "isMatroska", "()Z"⟩
abbrev cX10_block : ByteArray := prog_12_method_43_code
def yX10_block : MethodName := ⟨RX10, "block", "(I)Z"⟩
abbrev cX10_laced : ByteArray := prog_12_method_44_code
def yX10_laced : MethodName := ⟨RX10, "laced", "(III)I"⟩
abbrev cX10_readElements : ByteArray := prog_12_method_45_code
def yX10_readElements : MethodName := ⟨RX10, "readElements", "(I)I"⟩
abbrev cX10_wrong : ByteArray := prog_12_method_46_code
def yX10_wrong : MethodName := ⟨RX10, "wrong", "(I)I"⟩
abbrev cX10_sizeLength : ByteArray := prog_12_method_47_code
def yX10_sizeLength : MethodName := ⟨RX10, "sizeLength", "(J)I"⟩
abbrev cX10_putSize : ByteArray := prog_12_method_48_code
def yX10_putSize : MethodName := ⟨RX10, "putSize", "(J)V"⟩
abbrev cX10_later : ByteArray := prog_12_method_49_code
def yX10_later : MethodName := ⟨RX10, "later", "(Z)I"⟩
abbrev cX10_tell : ByteArray := prog_12_method_50_code
def yX10_tell : MethodName := ⟨RX10, "tell", "(IZ)V"⟩
abbrev cX10_elements_ : ByteArray := prog_12_method_51_code
def yX10_elements_ : MethodName := ⟨RX10, "elements", "(IIIZ)I"⟩
abbrev cX10_signedLength : ByteArray := prog_12_method_52_code
def yX10_signedLength : MethodName := ⟨RX10, "signedLength", "(J)I"⟩
abbrev cX10_putBlock : ByteArray := prog_12_method_53_code
def yX10_putBlock : MethodName := ⟨RX10, "putBlock", "(IIIII)V"⟩
abbrev cX10_turn : ByteArray := prog_12_method_54_code
def yX10_turn : MethodName := ⟨RX10, "turn", "()I"⟩
abbrev cX10_count : ByteArray := prog_12_method_55_code
def yX10_count : MethodName := ⟨RX10, "count", "(I)I"⟩
abbrev cX10_size : ByteArray := prog_12_method_56_code
def yX10_size : MethodName := ⟨RX10, "size", "(I)I"⟩
abbrev cX10_time : ByteArray := prog_12_method_57_code
def yX10_time : MethodName := ⟨RX10, "time", "(I)J"⟩
abbrev cX10_octet : ByteArray := prog_12_method_58_code
def yX10_octet : MethodName := ⟨RX10, "octet", "(II)I"⟩
abbrev cX10_out : ByteArray := prog_12_method_59_code
def yX10_out : MethodName := ⟨RX10, "out", "(I)I"⟩
abbrev cX10_patch : ByteArray := prog_12_method_60_code
def yX10_patch : MethodName := ⟨RX10, "patch", "(II)Z"⟩
abbrev cX10_sum : ByteArray := prog_12_method_61_code
def yX10_sum : MethodName := ⟨RX10, "sum", "(I)Z"⟩
def RJ9 : String := "java/lang/Math"
def TJ9 : u_T := fun k => match k with
  | _ => ("", "", "", false)
def tyJ9 : Nat → FieldType := fun k => match k with
  | _ => .int
abbrev wsJ90 : List Cond := u_ws RJ9 TJ9 0
theorem nmJ9 : ∀ a, a < 0 → ∀ b, b < 0 → a ≠ b → (TJ9 a).2.1 ≠ (TJ9 b).2.1 := by decide +kernel
theorem tyJ9_ok : ∀ k, k < 0 → parseFieldDescriptor (TJ9 k).2.2.1 = some (tyJ9 k) := by decide +kernel
abbrev cJ9_abs_067f4 : ByteArray := prog_13_method_61_code
def yJ9_abs_067f4 : MethodName := ⟨RJ9, "abs", "(J)J"⟩
abbrev cJ9_max_7cf53 : ByteArray := prog_13_method_65_code
def yJ9_max_7cf53 : MethodName := ⟨RJ9, "max", "(II)I"⟩
abbrev cJ9_max_f86c9 : ByteArray := prog_13_method_66_code
def yJ9_max_f86c9 : MethodName := ⟨RJ9, "max", "(JJ)J"⟩
abbrev cJ9_min_7cf53 : ByteArray := prog_13_method_69_code
def yJ9_min_7cf53 : MethodName := ⟨RJ9, "min", "(II)I"⟩
def RJ0 : String := "java/lang/String"
def TJ0 : u_T := fun k => match k with
  | _ => ("", "", "", false)
def tyJ0 : Nat → FieldType := fun k => match k with
  | _ => .int
abbrev wsJ00 : List Cond := u_ws RJ0 TJ0 0
theorem nmJ0 : ∀ a, a < 0 → ∀ b, b < 0 → a ≠ b → (TJ0 a).2.1 ≠ (TJ0 b).2.1 := by decide +kernel
theorem tyJ0_ok : ∀ k, k < 0 → parseFieldDescriptor (TJ0 k).2.2.1 = some (tyJ0 k) := by decide +kernel
abbrev cJ0_length_8abf5 : ByteArray := prog_14_method_54_code
def yJ0_length_8abf5 : MethodName := ⟨RJ0, "length", "()I"⟩
abbrev cJ0_charAt_5068e : ByteArray := prog_14_method_56_code
def yJ0_charAt_5068e : MethodName := ⟨RJ0, "charAt", "(I)C"⟩
abbrev cJ0_coder_7d493 : ByteArray := prog_14_method_152_code
def yJ0_coder_7d493 : MethodName := ⟨RJ0, "coder", "()B"⟩
abbrev cJ0_isLatin1_aae02 : ByteArray := prog_14_method_154_code
def yJ0_isLatin1_aae02 : MethodName := ⟨RJ0, "isLatin1", "()Z"⟩
abbrev cJ0_checkIndex_df160 : ByteArray := prog_14_method_155_code
def yJ0_checkIndex_df160 : MethodName := ⟨RJ0, "checkIndex", "(II)V"⟩
def RJ1 : String := "java/lang/StringLatin1"
def TJ1 : u_T := fun k => match k with
  | _ => ("", "", "", false)
def tyJ1 : Nat → FieldType := fun k => match k with
  | _ => .int
abbrev wsJ10 : List Cond := u_ws RJ1 TJ1 0
theorem nmJ1 : ∀ a, a < 0 → ∀ b, b < 0 → a ≠ b → (TJ1 a).2.1 ≠ (TJ1 b).2.1 := by decide +kernel
theorem tyJ1_ok : ∀ k, k < 0 → parseFieldDescriptor (TJ1 k).2.2.1 = some (tyJ1 k) := by decide +kernel
abbrev cJ1_charAt_3b067 : ByteArray := prog_15_method_2_code
def yJ1_charAt_3b067 : MethodName := ⟨RJ1, "charAt", "([BI)C"⟩
def RJ2 : String := "java/lang/StringUTF16"
def TJ2 : u_T := fun k => match k with
  | _ => ("", "", "", false)
def tyJ2 : Nat → FieldType := fun k => match k with
  | _ => .int
abbrev wsJ20 : List Cond := u_ws RJ2 TJ2 0
theorem nmJ2 : ∀ a, a < 0 → ∀ b, b < 0 → a ≠ b → (TJ2 a).2.1 ≠ (TJ2 b).2.1 := by decide +kernel
theorem tyJ2_ok : ∀ k, k < 0 → parseFieldDescriptor (TJ2 k).2.2.1 = some (tyJ2 k) := by decide +kernel
abbrev cJ2_getChar_3b067 : ByteArray := prog_16_method_5_code
def yJ2_getChar_3b067 : MethodName := ⟨RJ2, "getChar", "([BI)C"⟩
abbrev cJ2_length_9d52b : ByteArray := prog_16_method_6_code
def yJ2_length_9d52b : MethodName := ⟨RJ2, "length", "([B)I"⟩
abbrev cJ2_charAt_3b067 : ByteArray := prog_16_method_83_code
def yJ2_charAt_3b067 : MethodName := ⟨RJ2, "charAt", "([BI)C"⟩
abbrev cJ2_checkIndex_2214a : ByteArray := prog_16_method_91_code
def yJ2_checkIndex_2214a : MethodName := ⟨RJ2, "checkIndex", "(I[B)V"⟩
def RJ10 : String := "java/lang/System"
def TJ10 : u_T := fun k => match k with
  | _ => ("", "", "", false)
def tyJ10 : Nat → FieldType := fun k => match k with
  | _ => .int
abbrev wsJ100 : List Cond := u_ws RJ10 TJ10 0
theorem nmJ10 : ∀ a, a < 0 → ∀ b, b < 0 → a ≠ b → (TJ10 a).2.1 ≠ (TJ10 b).2.1 := by decide +kernel
theorem tyJ10_ok : ∀ k, k < 0 → parseFieldDescriptor (TJ10 k).2.2.1 = some (tyJ10 k) := by decide +kernel
def RJ3 : String := "jdk/internal/util/Preconditions"
def TJ3 : u_T := fun k => match k with
  | _ => ("", "", "", false)
def tyJ3 : Nat → FieldType := fun k => match k with
  | _ => .int
abbrev wsJ30 : List Cond := u_ws RJ3 TJ3 0
theorem nmJ3 : ∀ a, a < 0 → ∀ b, b < 0 → a ≠ b → (TJ3 a).2.1 ≠ (TJ3 b).2.1 := by decide +kernel
theorem tyJ3_ok : ∀ k, k < 0 → parseFieldDescriptor (TJ3 k).2.2.1 = some (tyJ3 k) := by decide +kernel
abbrev cJ3_checkIndex_8e157 : ByteArray := prog_18_method_11_code
def yJ3_checkIndex_8e157 : MethodName := ⟨RJ3, "checkIndex", "(IILjava/util/function/BiFunction;)I"⟩
def RL : String := "StreamRemuxerLaw"
abbrev cL_law : ByteArray := code
def yL_law : MethodName := ⟨RL, "law", "([I)Z"⟩
abbrev vwCl : List vw_C := [(RX1, TX1, 13), (RX2, TX2, 6), (RX3, TX3, 5), (RX4, TX4, 4), (RX6, TX6, 10), (RX7, TX7, 10), (RX8, TX8, 4), (RX9, TX9, 14), (RX10, TX10, 46)]
def wsL_law_r1 : List Cond := [Cond.classLink RL 7 RX9, Cond.instantiable RX9 14, Cond.initialized RX9, Cond.classLink RL 10 RX10, Cond.instantiable RX10 46, Cond.initialized RX10, Cond.constantLong RL 18 (4294967295), Cond.methodLink RL 9 yX9_init, Cond.instanceMethod yX9_init, Cond.code yX9_init cX9_init 1 none, Cond.methodLink RX9 1 objectInit, Cond.instanceMethod objectInit, Cond.code objectInit ⟨#[0xb1]⟩ 1 none, Cond.classLink RX9 7 RX8, Cond.instantiable RX8 4, Cond.initialized RX8, Cond.fieldLink RX9 14 "StreamRemuxer" "tape" "LStreamRemuxer$Row;", Cond.fieldLink RX9 18 "StreamRemuxer" "outRow" "LStreamRemuxer$Row;", Cond.fieldLink RX9 21 "StreamRemuxer" "spareRow" "LStreamRemuxer$Row;", Cond.classLink RX9 24 RX4, Cond.instantiable RX4 4, Cond.initialized RX4, Cond.fieldLink RX9 27 "StreamRemuxer" "list" "LStreamRemuxer$PacketList;", Cond.fieldLink RX9 31 "StreamRemuxer" "spareList" "LStreamRemuxer$PacketList;"]
def wsL_law_r2 : List Cond := [Cond.classLink RX9 34 RX7, Cond.instantiable RX7 10, Cond.initialized RX7, Cond.fieldLink RX9 37 "StreamRemuxer" "pageWriter" "LStreamRemuxer$PageWriter;", Cond.classLink RX9 41 RX6, Cond.instantiable RX6 10, Cond.initialized RX6, Cond.fieldLink RX9 44 "StreamRemuxer" "pageReader" "LStreamRemuxer$PageReader;", Cond.classLink RX9 48 RX2, Cond.instantiable RX2 6, Cond.initialized RX2, Cond.fieldLink RX9 51 "StreamRemuxer" "elementWriter" "LStreamRemuxer$ElementWriter;", Cond.classLink RX9 55 RX1, Cond.instantiable RX1 13, Cond.initialized RX1, Cond.fieldLink RX9 58 "StreamRemuxer" "elementReader" "LStreamRemuxer$ElementReader;", Cond.fieldLink RX9 62 "StreamRemuxer" "fault" "I", Cond.fieldLink RX9 66 "StreamRemuxer" "faultPlace" "I", Cond.methodLink RX9 11 yX8_init, Cond.instanceMethod yX8_init, Cond.code yX8_init cX8_init 2 none, Cond.methodLink RX8 3 objectInit, Cond.methodLink RX8 9 Lib.Math.max.name, Cond.static Lib.Math.max.name]
def wsL_law_r3 : List Cond := [Cond.initialized "java/lang/Math", Cond.code Lib.Math.max.name Lib.Math.max.code 2 (some .int), Cond.fieldLink RX8 15 "StreamRemuxer$Row" "most" "I", Cond.arrayClass .int, Cond.fieldLink RX8 21 "StreamRemuxer$Row" "words" "[I", Cond.instanceMethod yX4_init, Cond.code yX4_init cX4_init 1 none, Cond.methodLink RX4 3 objectInit, Cond.classLink RX4 9 RX8, Cond.fieldLink RX4 14 "StreamRemuxer$PacketList" "bytes" "LStreamRemuxer$Row;", Cond.fieldLink RX4 20 "StreamRemuxer$PacketList" "ends" "[I", Cond.arrayClass .long, Cond.fieldLink RX4 24 "StreamRemuxer$PacketList" "times" "[J", Cond.methodLink RX4 11 yX8_init, Cond.instanceMethod yX7_init, Cond.code yX7_init cX7_init 1 none, Cond.methodLink RX7 3 objectInit, Cond.fieldLink RX7 11 "StreamRemuxer$PageWriter" "segmentSizes" "[I", Cond.instanceMethod yX6_init, Cond.code yX6_init cX6_init 1 none, Cond.methodLink RX6 3 objectInit, Cond.instanceMethod yX2_init, Cond.code yX2_init cX2_init 1 none, Cond.methodLink RX2 3 objectInit]
def wsL_law_r4 : List Cond := [Cond.classLink RX2 9 RX8, Cond.fieldLink RX2 16 "StreamRemuxer$ElementWriter" "blockHeader" "LStreamRemuxer$Row;", Cond.methodLink RX2 13 yX8_init, Cond.methodLink RX9 57 yX1_init, Cond.instanceMethod yX1_init, Cond.code yX1_init cX1_init 2 none, Cond.methodLink RX1 5 objectInit, Cond.fieldLink RX1 13 "StreamRemuxer$ElementReader" "lacedSizes" "[I", Cond.classLink RX1 17 RX3, Cond.fieldLink RX1 19 "StreamRemuxer$ElementReader" "levels" "[LStreamRemuxer$Level;", Cond.instantiable RX3 5, Cond.initialized RX3, Cond.instanceMethod yX3_init, Cond.code yX3_init cX3_init 1 none, Cond.methodLink RX3 1 objectInit, Cond.methodLink RL 12 yX10_init, Cond.instanceMethod yX10_init, Cond.code yX10_init cX10_init 1 none, Cond.methodLink RX10 1 objectInit, Cond.arrayClass .byte, Cond.fieldLink RX10 7 "StreamRemuxerModel" "tape" "[B", Cond.fieldLink RX10 13 "StreamRemuxerModel" "out" "[B", Cond.fieldLink RX10 16 "StreamRemuxerModel" "draft" "[B", Cond.fieldLink RX10 19 "StreamRemuxerModel" "size" "[I"]
def wsL_law_r5 : List Cond := [Cond.fieldLink RX10 23 "StreamRemuxerModel" "readSize" "[I", Cond.fieldLink RX10 26 "StreamRemuxerModel" "time" "[J", Cond.fieldLink RX10 30 "StreamRemuxerModel" "readTime" "[J", Cond.fieldLink RX10 33 "StreamRemuxerModel" "bytes" "[B", Cond.fieldLink RX10 36 "StreamRemuxerModel" "readBytes" "[B", Cond.fieldLink RX10 39 "StreamRemuxerModel" "toldAt" "I", Cond.fieldLink RX10 43 "StreamRemuxerModel" "sizes" "[I", Cond.fieldLink RX10 46 "StreamRemuxerModel" "headRow" "[B", Cond.fieldLink RX10 49 "StreamRemuxerModel" "infoRow" "[B", Cond.fieldLink RX10 52 "StreamRemuxerModel" "tracksRow" "[B", Cond.fieldLink RX10 55 "StreamRemuxerModel" "codecRow" "[B", Cond.methodLink RL 13 yX9_feed, Cond.instanceMethod yX9_feed, Cond.selects RX9 yX9_feed yX9_feed, Cond.code yX9_feed cX9_feed 6 (some .int), Cond.fieldLink RX9 69 "StreamRemuxer$Row" "length" "I", Cond.methodLink RX9 72 yX8_addHighFirst, Cond.instanceMethod yX8_addHighFirst, Cond.selects RX8 yX8_addHighFirst yX8_addHighFirst, Cond.code yX8_addHighFirst cX8_addHighFirst 5 none, Cond.methodLink RX8 36 yX8_add, Cond.instanceMethod yX8_add, Cond.selects RX8 yX8_add yX8_add, Cond.code yX8_add cX8_add 2 none]
def wsL_law_r6 : List Cond := [Cond.fieldLink RX8 25 "StreamRemuxer$Row" "length" "I", Cond.fieldLink RX8 28 "StreamRemuxer$Row" "overfull" "Z", Cond.methodLink RX8 32 yX8_change, Cond.instanceMethod yX8_change, Cond.selects RX8 yX8_change yX8_change, Cond.code yX8_change cX8_change 4 (some .boolean), Cond.methodLink RL 17 yX10_feed, Cond.instanceMethod yX10_feed, Cond.selects RX10 yX10_feed yX10_feed, Cond.code yX10_feed cX10_feed 6 (some .int), Cond.fieldLink RX10 58 "StreamRemuxerModel" "taped" "I", Cond.methodLink RX10 61 yX10_four, Cond.instanceMethod yX10_four, Cond.selects RX10 yX10_four yX10_four, Cond.code yX10_four cX10_four 3 none, Cond.methodLink RL 20 yX9_packet, Cond.instanceMethod yX9_packet, Cond.selects RX9 yX9_packet yX9_packet, Cond.code yX9_packet cX9_packet 5 (some .int), Cond.constantLong RX9 80 (-1), Cond.constantLong RX9 82 (1099511627775), Cond.fieldLink RX9 88 "StreamRemuxer$PacketList" "bytes" "LStreamRemuxer$Row;", Cond.fieldLink RX9 102 "StreamRemuxer$PacketList" "packets" "I", Cond.methodLink RX9 76 yX9_isOnTape]
def wsL_law_r7 : List Cond := [Cond.instanceMethod yX9_isOnTape, Cond.selects RX9 yX9_isOnTape yX9_isOnTape, Cond.code yX9_isOnTape cX9_isOnTape 2 (some .boolean), Cond.methodLink RX9 84 yX4_hasRoom, Cond.instanceMethod yX4_hasRoom, Cond.selects RX4 yX4_hasRoom yX4_hasRoom, Cond.code yX4_hasRoom cX4_hasRoom 3 (some .boolean), Cond.fieldLink RX4 28 "StreamRemuxer$PacketList" "packets" "I", Cond.fieldLink RX4 61 "StreamRemuxer$Row" "length" "I", Cond.methodLink RX9 91 yX8_addPart, Cond.instanceMethod yX8_addPart, Cond.selects RX8 yX8_addPart yX8_addPart, Cond.code yX8_addPart cX8_addPart 5 none, Cond.methodLink RX8 40 yX8_at, Cond.instanceMethod yX8_at, Cond.selects RX8 yX8_at yX8_at, Cond.code yX8_at cX8_at 2 (some .int), Cond.methodLink RX9 95 yX4_endPacket, Cond.instanceMethod yX4_endPacket, Cond.selects RX4 yX4_endPacket yX4_endPacket, Cond.code yX4_endPacket cX4_endPacket 3 none, Cond.methodLink RX9 99 yX8_empty, Cond.instanceMethod yX8_empty, Cond.selects RX8 yX8_empty yX8_empty]
def wsL_law_r8 : List Cond := [Cond.code yX8_empty cX8_empty 1 none, Cond.methodLink RL 24 yX10_packet, Cond.instanceMethod yX10_packet, Cond.selects RX10 yX10_packet yX10_packet, Cond.code yX10_packet cX10_packet 5 (some .int), Cond.constantLong RX10 65 (-1), Cond.constantLong RX10 67 (1099511627775), Cond.fieldLink RX10 69 "StreamRemuxerModel" "many" "I", Cond.fieldLink RX10 72 "StreamRemuxerModel" "total" "I", Cond.methodLink RL 25 yX9_clear, Cond.instanceMethod yX9_clear, Cond.selects RX9 yX9_clear yX9_clear, Cond.code yX9_clear cX9_clear 2 (some .int), Cond.methodLink RX9 105 yX4_empty, Cond.instanceMethod yX4_empty, Cond.selects RX4 yX4_empty yX4_empty, Cond.code yX4_empty cX4_empty 1 none, Cond.methodLink RX4 32 yX8_empty, Cond.methodLink RL 29 yX10_clear, Cond.instanceMethod yX10_clear, Cond.selects RX10 yX10_clear yX10_clear, Cond.code yX10_clear cX10_clear 2 (some .int), Cond.methodLink RL 30 yX9_pages, Cond.instanceMethod yX9_pages]
def wsL_law_r9 : List Cond := [Cond.selects RX9 yX9_pages yX9_pages, Cond.code yX9_pages cX9_pages 4 (some .int), Cond.methodLink RX9 108 yX4_isInOrderOfTime, Cond.instanceMethod yX4_isInOrderOfTime, Cond.selects RX4 yX4_isInOrderOfTime yX4_isInOrderOfTime, Cond.code yX4_isInOrderOfTime cX4_isInOrderOfTime 4 (some .boolean), Cond.constantLong RX4 49 (-1), Cond.methodLink RX4 55 Lib.MathLoose.max_long.x, Cond.static Lib.MathLoose.max_long.x, Cond.code Lib.MathLoose.max_long.x Lib.MathLoose.max_long.code 4 (some .long), Cond.methodLink RX4 51 yX4_timeOf, Cond.instanceMethod yX4_timeOf, Cond.selects RX4 yX4_timeOf yX4_timeOf, Cond.code yX4_timeOf cX4_timeOf 2 (some .long), Cond.methodLink RX4 35 yX4_holds, Cond.instanceMethod yX4_holds, Cond.selects RX4 yX4_holds yX4_holds, Cond.code yX4_holds cX4_holds 2 (some .boolean), Cond.methodLink RX9 112 yX7_write, Cond.instanceMethod yX7_write, Cond.selects RX7 yX7_write yX7_write, Cond.code yX7_write cX7_write 9 none, Cond.fieldLink RX7 17 "StreamRemuxer$PageWriter" "source" "LStreamRemuxer$PacketList;", Cond.fieldLink RX7 21 "StreamRemuxer$PageWriter" "target" "LStreamRemuxer$Row;"]
def wsL_law_r10 : List Cond := [Cond.fieldLink RX7 25 "StreamRemuxer$PageWriter" "serial" "I", Cond.fieldLink RX7 29 "StreamRemuxer$PageWriter" "number" "I", Cond.fieldLink RX7 32 "StreamRemuxer$PageWriter" "written" "I", Cond.fieldLink RX7 35 "StreamRemuxer$PageWriter" "goesOn" "Z", Cond.fieldLink RX7 42 "StreamRemuxer$PacketList" "packets" "I", Cond.fieldLink RX7 55 "StreamRemuxer$PageWriter" "segments" "I", Cond.fieldLink RX7 62 "StreamRemuxer$PageWriter" "packetsEnded" "I", Cond.fieldLink RX7 65 "StreamRemuxer$PageWriter" "lastEnded" "I", Cond.methodLink RX7 39 yX7_beginPage, Cond.instanceMethod yX7_beginPage, Cond.selects RX7 yX7_beginPage yX7_beginPage, Cond.code yX7_beginPage cX7_beginPage 1 none, Cond.methodLink RX7 47 yX4_bytesOf, Cond.instanceMethod yX4_bytesOf, Cond.selects RX4 yX4_bytesOf yX4_bytesOf, Cond.code yX4_bytesOf cX4_bytesOf 2 (some .int), Cond.methodLink RX4 39 yX4_beginOf, Cond.instanceMethod yX4_beginOf, Cond.selects RX4 yX4_beginOf yX4_beginOf, Cond.code yX4_beginOf cX4_beginOf 2 (some .int), Cond.methodLink RX7 51 yX7_addSegment, Cond.instanceMethod yX7_addSegment, Cond.selects RX7 yX7_addSegment yX7_addSegment, Cond.code yX7_addSegment cX7_addSegment 2 none]
def wsL_law_r11 : List Cond := [Cond.methodLink RX7 58 yX7_endPage, Cond.instanceMethod yX7_endPage, Cond.selects RX7 yX7_endPage yX7_endPage, Cond.code yX7_endPage cX7_endPage 6 none, Cond.fieldLink RX7 68 "StreamRemuxer$Row" "length" "I", Cond.fieldLink RX7 80 "StreamRemuxer$PacketList" "bytes" "LStreamRemuxer$Row;", Cond.methodLink RX7 73 yX7_putHeader, Cond.instanceMethod yX7_putHeader, Cond.selects RX7 yX7_putHeader yX7_putHeader, Cond.code yX7_putHeader cX7_putHeader 3 none, Cond.constantLong RX7 90 (1332176723), Cond.constantLong RX7 96 (-1), Cond.methodLink RX7 92 yX8_addHighFirst, Cond.methodLink RX7 77 yX8_add, Cond.methodLink RX7 98 yX4_timeToWrite, Cond.instanceMethod yX4_timeToWrite, Cond.selects RX4 yX4_timeToWrite yX4_timeToWrite, Cond.code yX4_timeToWrite cX4_timeToWrite 3 (some .long), Cond.methodLink RX7 102 yX8_addLowFirst, Cond.instanceMethod yX8_addLowFirst, Cond.selects RX8 yX8_addLowFirst yX8_addLowFirst, Cond.code yX8_addLowFirst cX8_addLowFirst 5 none, Cond.methodLink RX7 83 yX8_addPart, Cond.methodLink RX7 87 yX5_makeSumRight]
def wsL_law_r12 : List Cond := [Cond.static yX5_makeSumRight, Cond.initialized RX5, Cond.code yX5_makeSumRight cX5_makeSumRight 5 none, Cond.methodLink RX5 26 yX5_sumOf, Cond.static yX5_sumOf, Cond.code yX5_sumOf cX5_sumOf 7 (some .int), Cond.fieldLink RX5 22 "StreamRemuxer$PageForm" "FOUR_SHIFTS" "[I", Cond.methodLink RX5 18 yX8_at, Cond.methodLink RX5 30 yX8_change, Cond.methodLink RX9 116 yX9_takeSpareRow, Cond.instanceMethod yX9_takeSpareRow, Cond.selects RX9 yX9_takeSpareRow yX9_takeSpareRow, Cond.code yX9_takeSpareRow cX9_takeSpareRow 2 (some .int), Cond.fieldLink RX9 188 "StreamRemuxer$Row" "overfull" "Z", Cond.methodLink RL 34 yX10_pages, Cond.instanceMethod yX10_pages, Cond.selects RX10 yX10_pages yX10_pages, Cond.code yX10_pages cX10_pages 20 (some .int), Cond.fieldLink RX10 81 "StreamRemuxerModel" "drafted" "I", Cond.fieldLink RX10 84 "StreamRemuxerModel" "full" "Z", Cond.methodLink RX10 88 yX10_put, Cond.instanceMethod yX10_put, Cond.selects RX10 yX10_put yX10_put, Cond.code yX10_put cX10_put 2 none]
def wsL_law_r13 : List Cond := [Cond.methodLink RX10 99 yX10_timeOf, Cond.instanceMethod yX10_timeOf, Cond.selects RX10 yX10_timeOf yX10_timeOf, Cond.code yX10_timeOf cX10_timeOf 3 (some .long), Cond.methodLink RX10 103 yX10_putLow, Cond.instanceMethod yX10_putLow, Cond.selects RX10 yX10_putLow yX10_putLow, Cond.code yX10_putLow cX10_putLow 5 none, Cond.methodLink RX10 107 yX10_segmentsFrom, Cond.instanceMethod yX10_segmentsFrom, Cond.selects RX10 yX10_segmentsFrom yX10_segmentsFrom, Cond.code yX10_segmentsFrom cX10_segmentsFrom 8 none, Cond.methodLink RX10 111 yX10_putSum, Cond.static yX10_putSum, Cond.code yX10_putSum cX10_putSum 5 none, Cond.methodLink RX10 95 yX10_sumOf, Cond.static yX10_sumOf, Cond.code yX10_sumOf cX10_sumOf 7 (some .int), Cond.constant RX10 94 (79764919), Cond.methodLink RX10 115 yX10_drawn, Cond.instanceMethod yX10_drawn, Cond.selects RX10 yX10_drawn yX10_drawn, Cond.code yX10_drawn cX10_drawn 2 (some .int), Cond.fieldLink RX10 91 "StreamRemuxerModel" "outMany" "I"]
def wsL_law_r14 : List Cond := [Cond.methodLink RL 35 yX9_elements, Cond.instanceMethod yX9_elements, Cond.selects RX9 yX9_elements yX9_elements, Cond.code yX9_elements cX9_elements 5 (some .int), Cond.methodLink RX9 120 yX2_write, Cond.instanceMethod yX2_write, Cond.selects RX2 yX2_write yX2_write, Cond.code yX2_write cX2_write 8 none, Cond.fieldLink RX2 20 "StreamRemuxer$ElementWriter" "source" "LStreamRemuxer$PacketList;", Cond.fieldLink RX2 24 "StreamRemuxer$ElementWriter" "target" "LStreamRemuxer$Row;", Cond.fieldLink RX2 27 "StreamRemuxer$ElementWriter" "lace" "I", Cond.fieldLink RX2 31 "StreamRemuxer$ElementWriter" "mostPackets" "I", Cond.fieldLink RX2 34 "StreamRemuxer$ElementWriter" "unknownSizes" "Z", Cond.fieldLink RX2 38 "StreamRemuxer$ElementWriter" "HEAD_BYTES" "[I", Cond.constant RX2 48 (408125543), Cond.fieldLink RX2 53 "StreamRemuxer$ElementWriter" "INFO_BYTES" "[I", Cond.fieldLink RX2 56 "StreamRemuxer$ElementWriter" "TRACKS_BYTES_TO_LACING" "[I", Cond.fieldLink RX2 62 "StreamRemuxer$ElementWriter" "TRACKS_BYTES_BEHIND" "[I", Cond.methodLink RX2 42 yX8_addEach, Cond.instanceMethod yX8_addEach, Cond.selects RX8 yX8_addEach yX8_addEach, Cond.code yX8_addEach cX8_addEach 3 none, Cond.methodLink RX2 49 yX2_beginLongElement, Cond.instanceMethod yX2_beginLongElement]
def wsL_law_r15 : List Cond := [Cond.selects RX2 yX2_beginLongElement yX2_beginLongElement, Cond.code yX2_beginLongElement cX2_beginLongElement 2 (some .int), Cond.fieldLink RX2 104 "StreamRemuxer$Row" "length" "I", Cond.methodLink RX2 100 yX8_addHighFirst, Cond.methodLink RX2 59 yX8_add, Cond.methodLink RX2 65 yX2_putClusters, Cond.instanceMethod yX2_putClusters, Cond.selects RX2 yX2_putClusters yX2_putClusters, Cond.code yX2_putClusters cX2_putClusters 11 none, Cond.fieldLink RX2 71 "StreamRemuxer$PacketList" "packets" "I", Cond.constant RX2 84 (524531317), Cond.methodLink RX2 76 yX4_timeToWrite, Cond.methodLink RX2 80 yX2_fitsBlock, Cond.static yX2_fitsBlock, Cond.code yX2_fitsBlock cX2_fitsBlock 2 (some .boolean), Cond.constantLong RX2 96 (-32768), Cond.constantLong RX2 98 (32767), Cond.methodLink RX2 68 yX2_endLongElement, Cond.instanceMethod yX2_endLongElement, Cond.selects RX2 yX2_endLongElement yX2_endLongElement, Cond.code yX2_endLongElement cX2_endLongElement 4 none, Cond.constant RX2 107 (268435456), Cond.methodLink RX2 108 yX8_change, Cond.methodLink RX2 85 yX2_putClusterTime]
def wsL_law_r16 : List Cond := [Cond.instanceMethod yX2_putClusterTime, Cond.selects RX2 yX2_putClusterTime yX2_putClusterTime, Cond.code yX2_putClusterTime cX2_putClusterTime 5 none, Cond.methodLink RX2 112 yX2_putSize, Cond.static yX2_putSize, Cond.code yX2_putSize cX2_putSize 4 none, Cond.methodLink RX2 147 yX0_highestSize, Cond.static yX0_highestSize, Cond.initialized RX0, Cond.code yX0_highestSize cX0_highestSize 1 (some .long), Cond.constantLong RX0 7 (2), Cond.methodLink RX2 89 yX2_packetsOfBlock, Cond.instanceMethod yX2_packetsOfBlock, Cond.selects RX2 yX2_packetsOfBlock yX2_packetsOfBlock, Cond.code yX2_packetsOfBlock cX2_packetsOfBlock 4 (some .int), Cond.methodLink RX2 116 yX4_bytesOf, Cond.methodLink RX2 92 yX2_putBlock, Cond.instanceMethod yX2_putBlock, Cond.selects RX2 yX2_putBlock yX2_putBlock, Cond.code yX2_putBlock cX2_putBlock 8 none, Cond.fieldLink RX2 135 "StreamRemuxer$PacketList" "bytes" "LStreamRemuxer$Row;", Cond.methodLink RX2 119 yX8_empty, Cond.methodLink RX2 122 yX2_putSummedSize, Cond.instanceMethod yX2_putSummedSize]
def wsL_law_r17 : List Cond := [Cond.selects RX2 yX2_putSummedSize yX2_putSummedSize, Cond.code yX2_putSummedSize cX2_putSummedSize 4 none, Cond.methodLink RX2 125 yX2_putDifference, Cond.instanceMethod yX2_putDifference, Cond.selects RX2 yX2_putDifference yX2_putDifference, Cond.code yX2_putDifference cX2_putDifference 6 none, Cond.methodLink RX2 138 Lib.MathLoose.abs_long.x, Cond.static Lib.MathLoose.abs_long.x, Cond.code Lib.MathLoose.abs_long.x Lib.MathLoose.abs_long.code 2 (some .long), Cond.methodLink RX2 144 yX0_differenceShift, Cond.static yX0_differenceShift, Cond.code yX0_differenceShift cX0_differenceShift 1 (some .long), Cond.methodLink RX2 128 yX4_beginOf, Cond.methodLink RX2 131 yX8_addPart, Cond.methodLink RL 39 yX10_elements_, Cond.instanceMethod yX10_elements_, Cond.selects RX10 yX10_elements_ yX10_elements_, Cond.code yX10_elements_ cX10_elements_ 18 (some .int), Cond.constantLong RX10 318 (408125543), Cond.constantLong RX10 328 (524531317), Cond.methodLink RX10 314 yX10_putRow, Cond.instanceMethod yX10_putRow, Cond.selects RX10 yX10_putRow yX10_putRow, Cond.code yX10_putRow cX10_putRow 3 none]
def wsL_law_r18 : List Cond := [Cond.methodLink RX10 310 yX10_putHigh, Cond.instanceMethod yX10_putHigh, Cond.selects RX10 yX10_putHigh yX10_putHigh, Cond.code yX10_putHigh cX10_putHigh 5 none, Cond.methodLink RX10 320 yX10_later, Cond.instanceMethod yX10_later, Cond.selects RX10 yX10_later yX10_later, Cond.code yX10_later cX10_later 2 (some .int), Cond.methodLink RX10 324 yX10_tell, Cond.instanceMethod yX10_tell, Cond.selects RX10 yX10_tell yX10_tell, Cond.code yX10_tell cX10_tell 5 none, Cond.constant RX10 313 (268435456), Cond.methodLink RX10 330 yX10_putBlock, Cond.instanceMethod yX10_putBlock, Cond.selects RX10 yX10_putBlock yX10_putBlock, Cond.code yX10_putBlock cX10_putBlock 11 none, Cond.constantLong RX10 268 (4), Cond.methodLink RX10 306 yX10_sizeLength, Cond.static yX10_sizeLength, Cond.code yX10_sizeLength cX10_sizeLength 3 (some .int), Cond.methodLink RX10 334 yX10_signedLength, Cond.static yX10_signedLength, Cond.code yX10_signedLength cX10_signedLength 3 (some .int)]
def wsL_law_r19 : List Cond := [Cond.methodLink RX10 337 yX10_putSize, Cond.instanceMethod yX10_putSize, Cond.selects RX10 yX10_putSize yX10_putSize, Cond.code yX10_putSize cX10_putSize 4 none, Cond.methodLink RL 40 yX9_readPages, Cond.instanceMethod yX9_readPages, Cond.selects RX9 yX9_readPages yX9_readPages, Cond.code yX9_readPages cX9_readPages 2 (some .int), Cond.fieldLink RX9 127 "StreamRemuxer$PageReader" "fault" "I", Cond.fieldLink RX9 128 "StreamRemuxer$PageReader" "place" "I", Cond.fieldLink RX9 131 "StreamRemuxer$PageReader" "pageCount" "I", Cond.fieldLink RX9 134 "StreamRemuxer" "pagesRead" "I", Cond.methodLink RX9 123 yX6_read, Cond.instanceMethod yX6_read, Cond.selects RX6 yX6_read yX6_read, Cond.code yX6_read cX6_read 6 none, Cond.fieldLink RX6 9 "StreamRemuxer$PageReader" "file" "LStreamRemuxer$Row;", Cond.fieldLink RX6 15 "StreamRemuxer$PageReader" "limit" "I", Cond.fieldLink RX6 19 "StreamRemuxer$PageReader" "target" "LStreamRemuxer$PacketList;", Cond.fieldLink RX6 23 "StreamRemuxer$PageReader" "pageCount" "I", Cond.fieldLink RX6 26 "StreamRemuxer$PageReader" "packetIsOpen" "Z", Cond.fieldLink RX6 30 "StreamRemuxer$PageReader" "lastWasRead" "Z", Cond.fieldLink RX6 33 "StreamRemuxer$PageReader" "latestTime" "J", Cond.fieldLink RX6 37 "StreamRemuxer$PageReader" "fault" "I"]
def wsL_law_r20 : List Cond := [Cond.fieldLink RX6 40 "StreamRemuxer$PageReader" "place" "I", Cond.methodLink RX6 43 yX6_faultOf, Cond.instanceMethod yX6_faultOf, Cond.selects RX6 yX6_faultOf yX6_faultOf, Cond.code yX6_faultOf cX6_faultOf 6 (some .int), Cond.methodLink RX6 56 yX5_isMarked, Cond.static yX5_isMarked, Cond.code yX5_isMarked cX5_isMarked 2 (some .boolean), Cond.constant RX5 17 (1332176723), Cond.methodLink RX5 9 yX8_highFirst, Cond.instanceMethod yX8_highFirst, Cond.selects RX8 yX8_highFirst yX8_highFirst, Cond.code yX8_highFirst cX8_highFirst 6 (some .long), Cond.methodLink RX6 60 yX8_at, Cond.methodLink RX6 65 yX5_endOf, Cond.static yX5_endOf, Cond.code yX5_endOf cX5_endOf 6 (some .int), Cond.methodLink RX6 69 yX5_sumOf, Cond.methodLink RX6 72 yX6_numberAt, Cond.instanceMethod yX6_numberAt, Cond.selects RX6 yX6_numberAt yX6_numberAt, Cond.code yX6_numberAt cX6_numberAt 2 (some .int), Cond.methodLink RX6 82 yX8_lowFirst, Cond.instanceMethod yX8_lowFirst]
def wsL_law_r21 : List Cond := [Cond.selects RX8 yX8_lowFirst yX8_lowFirst, Cond.code yX8_lowFirst cX8_lowFirst 6 (some .long), Cond.methodLink RX6 75 yX6_isOutOfOrder, Cond.instanceMethod yX6_isOutOfOrder, Cond.selects RX6 yX6_isOutOfOrder yX6_isOutOfOrder, Cond.code yX6_isOutOfOrder cX6_isOutOfOrder 4 (some .boolean), Cond.fieldLink RX6 95 "StreamRemuxer$PageReader" "serial" "I", Cond.methodLink RX6 79 yX6_packetsEnding, Cond.instanceMethod yX6_packetsEnding, Cond.selects RX6 yX6_packetsEnding yX6_packetsEnding, Cond.code yX6_packetsEnding cX6_packetsEnding 5 (some .int), Cond.methodLink RX6 86 yX6_isTimeWrong, Cond.instanceMethod yX6_isTimeWrong, Cond.selects RX6 yX6_isTimeWrong yX6_isTimeWrong, Cond.code yX6_isTimeWrong cX6_isTimeWrong 4 (some .boolean), Cond.constantLong RX6 98 (-1), Cond.constantLong RX6 100 (1099511627775), Cond.methodLink RX6 90 yX4_hasRoom, Cond.methodLink RX6 47 yX6_takePage, Cond.instanceMethod yX6_takePage, Cond.selects RX6 yX6_takePage yX6_takePage, Cond.code yX6_takePage cX6_takePage 9 (some .int), Cond.fieldLink RX6 102 "StreamRemuxer$PacketList" "bytes" "LStreamRemuxer$Row;", Cond.methodLink RX6 105 yX8_addPart]
def wsL_law_r22 : List Cond := [Cond.methodLink RX6 109 yX4_endPacket, Cond.methodLink RX6 50 yX6_faultAtEnd, Cond.instanceMethod yX6_faultAtEnd, Cond.selects RX6 yX6_faultAtEnd yX6_faultAtEnd, Cond.code yX6_faultAtEnd cX6_faultAtEnd 1 (some .int), Cond.methodLink RX9 137 yX9_takeSpareList, Cond.instanceMethod yX9_takeSpareList, Cond.selects RX9 yX9_takeSpareList yX9_takeSpareList, Cond.code yX9_takeSpareList cX9_takeSpareList 2 (some .int), Cond.methodLink RL 44 yX10_readPages, Cond.instanceMethod yX10_readPages, Cond.selects RX10 yX10_readPages yX10_readPages, Cond.code yX10_readPages cX10_readPages 4 (some .int), Cond.fieldLink RX10 138 "StreamRemuxerModel" "pages" "I", Cond.fieldLink RX10 141 "StreamRemuxerModel" "openBytes" "I", Cond.fieldLink RX10 144 "StreamRemuxerModel" "isLast" "Z", Cond.fieldLink RX10 147 "StreamRemuxerModel" "lastTime" "J", Cond.fieldLink RX10 119 "StreamRemuxerModel" "fault" "I", Cond.fieldLink RX10 161 "StreamRemuxerModel" "pageCount" "I", Cond.methodLink RX10 135 yX10_begin, Cond.instanceMethod yX10_begin, Cond.selects RX10 yX10_begin yX10_begin, Cond.code yX10_begin cX10_begin 1 none, Cond.fieldLink RX10 122 "StreamRemuxerModel" "faultAt" "I"]
def wsL_law_r23 : List Cond := [Cond.fieldLink RX10 75 "StreamRemuxerModel" "readMany" "I", Cond.fieldLink RX10 78 "StreamRemuxerModel" "readTotal" "I", Cond.methodLink RX10 151 yX10_fails, Cond.instanceMethod yX10_fails, Cond.selects RX10 yX10_fails yX10_fails, Cond.code yX10_fails cX10_fails 3 (some .boolean), Cond.methodLink RX10 155 yX10_page, Cond.instanceMethod yX10_page, Cond.selects RX10 yX10_page yX10_page, Cond.code yX10_page cX10_page 8 (some .boolean), Cond.fieldLink RX10 178 "StreamRemuxerModel" "lastNumber" "I", Cond.fieldLink RX10 181 "StreamRemuxerModel" "serial" "I", Cond.methodLink RX10 167 yX10_isMark, Cond.instanceMethod yX10_isMark, Cond.selects RX10 yX10_isMark yX10_isMark, Cond.code yX10_isMark cX10_isMark 2 (some .boolean), Cond.methodLink RX10 125 yX10_at, Cond.instanceMethod yX10_at, Cond.selects RX10 yX10_at yX10_at, Cond.code yX10_at cX10_at 2 (some .int), Cond.methodLink RX10 171 yX10_isWhole, Cond.instanceMethod yX10_isWhole, Cond.selects RX10 yX10_isWhole yX10_isWhole, Cond.code yX10_isWhole cX10_isWhole 3 (some .boolean)]
def wsL_law_r24 : List Cond := [Cond.methodLink RX10 158 yX10_lengthOf, Cond.instanceMethod yX10_lengthOf, Cond.selects RX10 yX10_lengthOf yX10_lengthOf, Cond.code yX10_lengthOf cX10_lengthOf 4 (some .int), Cond.methodLink RX10 174 yX10_low, Cond.instanceMethod yX10_low, Cond.selects RX10 yX10_low yX10_low, Cond.code yX10_low cX10_low 6 (some .long), Cond.methodLink RX10 184 yX10_packets, Cond.instanceMethod yX10_packets, Cond.selects RX10 yX10_packets yX10_packets, Cond.code yX10_packets cX10_packets 16 (some .boolean), Cond.methodLink RX10 164 yX10_ends, Cond.instanceMethod yX10_ends, Cond.selects RX10 yX10_ends yX10_ends, Cond.code yX10_ends cX10_ends 2 (some .int), Cond.fieldLink RX10 129 "StreamRemuxerModel" "told" "I", Cond.methodLink RX10 132 yX10_takeList, Cond.instanceMethod yX10_takeList, Cond.selects RX10 yX10_takeList yX10_takeList, Cond.code yX10_takeList cX10_takeList 2 none, Cond.methodLink RL 45 yX9_readElements, Cond.instanceMethod yX9_readElements, Cond.selects RX9 yX9_readElements yX9_readElements]
def wsL_law_r25 : List Cond := [Cond.code yX9_readElements cX9_readElements 2 (some .int), Cond.fieldLink RX9 141 "StreamRemuxer$ElementReader" "fault" "I", Cond.fieldLink RX9 142 "StreamRemuxer$ElementReader" "place" "I", Cond.fieldLink RX9 143 "StreamRemuxer$ElementReader" "clusters" "I", Cond.fieldLink RX9 146 "StreamRemuxer" "clustersRead" "I", Cond.fieldLink RX9 149 "StreamRemuxer$ElementReader" "blocks" "I", Cond.fieldLink RX9 152 "StreamRemuxer" "blocksRead" "I", Cond.methodLink RX9 140 yX1_read, Cond.instanceMethod yX1_read, Cond.selects RX1 yX1_read yX1_read, Cond.code yX1_read cX1_read 7 none, Cond.fieldLink RX1 24 "StreamRemuxer$ElementReader" "file" "LStreamRemuxer$Row;", Cond.fieldLink RX1 28 "StreamRemuxer$ElementReader" "target" "LStreamRemuxer$PacketList;", Cond.fieldLink RX1 32 "StreamRemuxer$ElementReader" "fault" "I", Cond.fieldLink RX1 36 "StreamRemuxer$ElementReader" "place" "I", Cond.fieldLink RX1 39 "StreamRemuxer$ElementReader" "clusters" "I", Cond.fieldLink RX1 42 "StreamRemuxer$ElementReader" "blocks" "I", Cond.constantLong RX1 45 (-1), Cond.fieldLink RX1 47 "StreamRemuxer$ElementReader" "trackNumber" "J", Cond.fieldLink RX1 51 "StreamRemuxer$ElementReader" "clusterTime" "J", Cond.fieldLink RX1 54 "StreamRemuxer$ElementReader" "depth" "I", Cond.fieldLink RX1 61 "StreamRemuxer$Level" "end" "I", Cond.methodLink RX1 57 yX1_openLevel, Cond.instanceMethod yX1_openLevel]
def wsL_law_r26 : List Cond := [Cond.selects RX1 yX1_openLevel yX1_openLevel, Cond.code yX1_openLevel cX1_openLevel 6 (some .int), Cond.fieldLink RX1 75 "StreamRemuxer$Level" "id" "I", Cond.fieldLink RX1 78 "StreamRemuxer$Level" "missingPlace" "I", Cond.fieldLink RX1 81 "StreamRemuxer$Level" "seen" "I", Cond.fieldLink RX1 84 "StreamRemuxer$Level" "tillCluster" "Z", Cond.constant RX1 88 (524531317), Cond.fieldLink RX1 89 "StreamRemuxer$ElementReader" "bodySize" "J", Cond.methodLink RX1 71 yX1_fail, Cond.instanceMethod yX1_fail, Cond.selects RX1 yX1_fail yX1_fail, Cond.code yX1_fail cX1_fail 3 (some .int), Cond.methodLink RX1 64 yX1_readElement, Cond.instanceMethod yX1_readElement, Cond.selects RX1 yX1_readElement yX1_readElement, Cond.code yX1_readElement cX1_readElement 7 (some .int), Cond.methodLink RX1 96 yX1_readId, Cond.instanceMethod yX1_readId, Cond.selects RX1 yX1_readId yX1_readId, Cond.code yX1_readId cX1_readId 4 (some .int), Cond.methodLink RX1 105 yX8_at, Cond.methodLink RX1 111 yX1_markedWidth, Cond.static yX1_markedWidth, Cond.code yX1_markedWidth cX1_markedWidth 2 (some .int)]
def wsL_law_r27 : List Cond := [Cond.methodLink RX1 143 yX8_highFirst, Cond.methodLink RX1 68 yX1_closeLevel, Cond.instanceMethod yX1_closeLevel, Cond.selects RX1 yX1_closeLevel yX1_closeLevel, Cond.code yX1_closeLevel cX1_closeLevel 3 (some .int), Cond.methodLink RX1 92 yX1_lacksSome, Cond.static yX1_lacksSome, Cond.code yX1_lacksSome cX1_lacksSome 4 (some .boolean), Cond.constantLong RX1 134 (2), Cond.methodLink RX1 117 yX1_column, Cond.static yX1_column, Cond.code yX1_column cX1_column 3 (some .long), Cond.fieldLink RX1 130 "StreamRemuxer$ElementReader" "TOLD" "[J", Cond.methodLink RX1 99 yX1_rowOf, Cond.static yX1_rowOf, Cond.code yX1_rowOf cX1_rowOf 5 (some .int), Cond.methodLink RX1 102 yX1_mayStand, Cond.static yX1_mayStand, Cond.code yX1_mayStand cX1_mayStand 2 (some .boolean), Cond.constant RX1 136 (408125543), Cond.constant RX1 141 (440786851), Cond.constant RX1 142 (374648427), Cond.methodLink RX1 137 yX1_isSeen, Cond.static yX1_isSeen]
def wsL_law_r28 : List Cond := [Cond.code yX1_isSeen cX1_isSeen 4 (some .boolean), Cond.methodLink RX1 114 yX1_readSize, Cond.instanceMethod yX1_readSize, Cond.selects RX1 yX1_readSize yX1_readSize, Cond.code yX1_readSize cX1_readSize 7 (some .int), Cond.constantLong RX1 156 (2147483647), Cond.methodLink RX1 150 yX1_sizeWidth, Cond.instanceMethod yX1_sizeWidth, Cond.selects RX1 yX1_sizeWidth yX1_sizeWidth, Cond.code yX1_sizeWidth cX1_sizeWidth 4 (some .int), Cond.methodLink RX1 153 yX1_sizeNumber, Cond.instanceMethod yX1_sizeNumber, Cond.selects RX1 yX1_sizeNumber yX1_sizeNumber, Cond.code yX1_sizeNumber cX1_sizeNumber 6 (some .long), Cond.methodLink RX1 146 yX0_highestSize, Cond.methodLink RX1 121 yX1_readUint, Cond.instanceMethod yX1_readUint, Cond.selects RX1 yX1_readUint yX1_readUint, Cond.code yX1_readUint cX1_readUint 7 (some .int), Cond.constantLong RX1 158 (215), Cond.constantLong RX1 160 (231), Cond.methodLink RX1 124 yX1_isDocumentName, Cond.instanceMethod yX1_isDocumentName, Cond.selects RX1 yX1_isDocumentName yX1_isDocumentName]
def wsL_law_r29 : List Cond := [Cond.code yX1_isDocumentName cX1_isDocumentName 4 (some .boolean), Cond.methodLink RX1 164 yJ0_length_8abf5, Cond.instanceMethod yJ0_length_8abf5, Cond.selects RJ0 yJ0_length_8abf5 yJ0_length_8abf5, Cond.initialized RJ0, Cond.code yJ0_length_8abf5 cJ0_length_8abf5 1 (some .int), Cond.fieldLink RJ0 9 "java/lang/String" "value" "[B", Cond.methodLink RJ0 335 yJ0_coder_7d493, Cond.instanceMethod yJ0_coder_7d493, Cond.selects RJ0 yJ0_coder_7d493 yJ0_coder_7d493, Cond.code yJ0_coder_7d493 cJ0_coder_7d493 1 (some .byte), Cond.fieldLink RJ0 38 "java/lang/String" "COMPACT_STRINGS" "Z", Cond.fieldLink RJ0 15 "java/lang/String" "coder" "B", Cond.methodLink RX1 170 yJ0_charAt_5068e, Cond.instanceMethod yJ0_charAt_5068e, Cond.selects RJ0 yJ0_charAt_5068e yJ0_charAt_5068e, Cond.code yJ0_charAt_5068e cJ0_charAt_5068e 2 (some .char), Cond.methodLink RJ0 492 yJ0_isLatin1_aae02, Cond.instanceMethod yJ0_isLatin1_aae02, Cond.selects RJ0 yJ0_isLatin1_aae02 yJ0_isLatin1_aae02, Cond.code yJ0_isLatin1_aae02 cJ0_isLatin1_aae02 1 (some .boolean), Cond.methodLink RJ0 495 yJ1_charAt_3b067, Cond.static yJ1_charAt_3b067, Cond.initialized RJ1]
def wsL_law_r30 : List Cond := [Cond.code yJ1_charAt_3b067 cJ1_charAt_3b067 2 (some .char), Cond.methodLink RJ1 9 yJ0_checkIndex_df160, Cond.static yJ0_checkIndex_df160, Cond.code yJ0_checkIndex_df160 cJ0_checkIndex_df160 2 none, Cond.fieldLink RJ0 1053 "jdk/internal/util/Preconditions" "SIOOBE_FORMATTER" "Ljava/util/function/BiFunction;", Cond.methodLink RJ0 1059 yJ3_checkIndex_8e157, Cond.static yJ3_checkIndex_8e157, Cond.initialized RJ3, Cond.code yJ3_checkIndex_8e157 cJ3_checkIndex_8e157 3 (some .int), Cond.methodLink RJ0 498 yJ2_charAt_3b067, Cond.static yJ2_charAt_3b067, Cond.initialized RJ2, Cond.code yJ2_charAt_3b067 cJ2_charAt_3b067 2 (some .char), Cond.methodLink RJ2 67 yJ2_checkIndex_2214a, Cond.static yJ2_checkIndex_2214a, Cond.code yJ2_checkIndex_2214a cJ2_checkIndex_2214a 2 none, Cond.methodLink RJ2 48 yJ2_length_9d52b, Cond.static yJ2_length_9d52b, Cond.code yJ2_length_9d52b cJ2_length_9d52b 1 (some .int), Cond.methodLink RJ2 414 yJ0_checkIndex_df160, Cond.methodLink RJ2 71 yJ2_getChar_3b067, Cond.static yJ2_getChar_3b067, Cond.code yJ2_getChar_3b067 cJ2_getChar_3b067 2 (some .char), Cond.fieldLink RJ2 44 "java/lang/StringUTF16" "$assertionsDisabled" "Z"]
def wsL_law_r31 : List Cond := [Cond.fieldLink RJ2 59 "java/lang/StringUTF16" "HI_BYTE_SHIFT" "I", Cond.fieldLink RJ2 63 "java/lang/StringUTF16" "LO_BYTE_SHIFT" "I", Cond.methodLink RX1 127 yX1_readBlock, Cond.instanceMethod yX1_readBlock, Cond.selects RX1 yX1_readBlock yX1_readBlock, Cond.code yX1_readBlock cX1_readBlock 11 (some .int), Cond.constantLong RX1 174 (1099511627775), Cond.fieldLink RX1 180 "StreamRemuxer$ElementReader" "lacingAt" "I", Cond.methodLink RX1 176 yX1_readLacing, Cond.instanceMethod yX1_readLacing, Cond.selects RX1 yX1_readLacing yX1_readLacing, Cond.code yX1_readLacing cX1_readLacing 10 (some .int), Cond.methodLink RX1 203 yX1_shareAlike, Cond.instanceMethod yX1_shareAlike, Cond.selects RX1 yX1_shareAlike yX1_shareAlike, Cond.code yX1_shareAlike cX1_shareAlike 4 (some .int), Cond.methodLink RX1 206 yX1_readSummedSize, Cond.instanceMethod yX1_readSummedSize, Cond.selects RX1 yX1_readSummedSize yX1_readSummedSize, Cond.code yX1_readSummedSize cX1_readSummedSize 5 (some .long), Cond.methodLink RX1 209 yX1_readSizeOrDifference, Cond.instanceMethod yX1_readSizeOrDifference, Cond.selects RX1 yX1_readSizeOrDifference yX1_readSizeOrDifference, Cond.code yX1_readSizeOrDifference cX1_readSizeOrDifference 6 (some .long)]
def wsL_law_r32 : List Cond := [Cond.methodLink RX1 212 yX0_differenceShift, Cond.methodLink RX1 183 yX4_hasRoom, Cond.methodLink RX1 188 yX1_takePackets, Cond.instanceMethod yX1_takePackets, Cond.selects RX1 yX1_takePackets yX1_takePackets, Cond.code yX1_takePackets cX1_takePackets 6 none, Cond.fieldLink RX1 192 "StreamRemuxer$PacketList" "bytes" "LStreamRemuxer$Row;", Cond.methodLink RX1 195 yX8_addPart, Cond.methodLink RX1 199 yX4_endPacket, Cond.methodLink RL 48 yX10_readElements, Cond.instanceMethod yX10_readElements, Cond.selects RX10 yX10_readElements yX10_readElements, Cond.code yX10_readElements cX10_readElements 3 (some .int), Cond.fieldLink RX10 243 "StreamRemuxerModel" "clusters" "I", Cond.fieldLink RX10 291 "StreamRemuxerModel" "blocks" "I", Cond.fieldLink RX10 300 "StreamRemuxerModel" "clusterCount" "I", Cond.fieldLink RX10 303 "StreamRemuxerModel" "blockCount" "I", Cond.methodLink RX10 246 yX10_elements, Cond.instanceMethod yX10_elements, Cond.selects RX10 yX10_elements yX10_elements, Cond.code yX10_elements cX10_elements 12 (some .boolean), Cond.fieldLink RX10 191 "StreamRemuxerModel" "id" "I", Cond.constant RX10 207 (524531317), Cond.fieldLink RX10 210 "StreamRemuxerModel" "to" "I"]
def wsL_law_r33 : List Cond := [Cond.fieldLink RX10 203 "StreamRemuxerModel" "unknown" "Z", Cond.fieldLink RX10 240 "StreamRemuxerModel" "hasTime" "Z", Cond.fieldLink RX10 194 "StreamRemuxerModel" "from" "I", Cond.fieldLink RX10 250 "StreamRemuxerModel" "over" "I", Cond.methodLink RX10 220 yX10_isCluster, Cond.instanceMethod yX10_isCluster, Cond.selects RX10 yX10_isCluster yX10_isCluster, Cond.code yX10_isCluster cX10_isCluster 3 (some .boolean), Cond.methodLink RX10 223 yX10_name, Cond.instanceMethod yX10_name, Cond.selects RX10 yX10_name yX10_name, Cond.code yX10_name cX10_name 8 (some .boolean), Cond.methodLink RX10 188 yX10_lengthBy, Cond.static yX10_lengthBy, Cond.code yX10_lengthBy cX10_lengthBy 3 (some .int), Cond.methodLink RX10 197 yX10_mayStand, Cond.instanceMethod yX10_mayStand, Cond.selects RX10 yX10_mayStand yX10_mayStand, Cond.code yX10_mayStand cX10_mayStand 3 (some .boolean), Cond.constant RX10 213 (440786851), Cond.constant RX10 206 (408125543), Cond.constant RX10 217 (357149030), Cond.constant RX10 218 (374648427), Cond.constant RX10 219 (2807729)]
def wsL_law_r34 : List Cond := [Cond.methodLink RX10 214 yX10_bitOfHead, Cond.instanceMethod yX10_bitOfHead, Cond.selects RX10 yX10_bitOfHead yX10_bitOfHead, Cond.code yX10_bitOfHead cX10_bitOfHead 1 (some .int), Cond.methodLink RX10 227 yX10_head, Cond.instanceMethod yX10_head, Cond.selects RX10 yX10_head yX10_head, Cond.code yX10_head cX10_head 8 (some .boolean), Cond.constantLong RX10 208 (2147483647), Cond.methodLink RX10 200 yX10_sizeAt, Cond.instanceMethod yX10_sizeAt, Cond.selects RX10 yX10_sizeAt yX10_sizeAt, Cond.code yX10_sizeAt cX10_sizeAt 6 (some .long), Cond.methodLink RX10 231 yX10_bit, Cond.instanceMethod yX10_bit, Cond.selects RX10 yX10_bit yX10_bit, Cond.code yX10_bit cX10_bit 2 (some .int), Cond.methodLink RX10 234 yX10_sortOf, Cond.instanceMethod yX10_sortOf, Cond.selects RX10 yX10_sortOf yX10_sortOf, Cond.code yX10_sortOf cX10_sortOf 1 (some .int), Cond.methodLink RX10 237 yX10_plain, Cond.instanceMethod yX10_plain, Cond.selects RX10 yX10_plain yX10_plain]
def wsL_law_r35 : List Cond := [Cond.code yX10_plain cX10_plain 4 (some .boolean), Cond.constantLong RX10 262 (4611686018427387903), Cond.constantLong RX10 270 (8), Cond.fieldLink RX10 276 "StreamRemuxerModel" "number" "I", Cond.constantLong RX10 279 (126), Cond.constantLong RX10 281 (2), Cond.fieldLink RX10 283 "StreamRemuxerModel" "clusterTime" "J", Cond.methodLink RX10 264 yX10_isWithin, Cond.instanceMethod yX10_isWithin, Cond.selects RX10 yX10_isWithin yX10_isWithin, Cond.code yX10_isWithin cX10_isWithin 8 (some .boolean), Cond.methodLink RX10 258 yX10_uint, Cond.instanceMethod yX10_uint, Cond.selects RX10 yX10_uint yX10_uint, Cond.code yX10_uint cX10_uint 4 (some .long), Cond.constantLong RX10 256 (18014398509481984), Cond.methodLink RX10 272 yX10_isMatroska, Cond.instanceMethod yX10_isMatroska, Cond.selects RX10 yX10_isMatroska yX10_isMatroska, Cond.code yX10_isMatroska cX10_isMatroska 4 (some .boolean), Cond.constantLong RX10 289 (7881708857720007521), Cond.methodLink RX10 286 yX10_block, Cond.instanceMethod yX10_block, Cond.selects RX10 yX10_block yX10_block]
def wsL_law_r36 : List Cond := [Cond.code yX10_block cX10_block 13 (some .boolean), Cond.methodLink RX10 294 yX10_laced, Cond.instanceMethod yX10_laced, Cond.selects RX10 yX10_laced yX10_laced, Cond.code yX10_laced cX10_laced 9 (some .int), Cond.constantLong RX10 298 (6000), Cond.methodLink RX10 253 yX10_has, Cond.instanceMethod yX10_has, Cond.selects RX10 yX10_has yX10_has, Cond.code yX10_has cX10_has 5 (some .boolean), Cond.methodLink RL 49 yX9_wrong, Cond.instanceMethod yX9_wrong, Cond.selects RX9 yX9_wrong yX9_wrong, Cond.code yX9_wrong cX9_wrong 2 (some .int), Cond.methodLink RL 52 yX10_wrong, Cond.instanceMethod yX10_wrong, Cond.selects RX10 yX10_wrong yX10_wrong, Cond.code yX10_wrong cX10_wrong 2 (some .int), Cond.methodLink RL 53 yX9_turn, Cond.instanceMethod yX9_turn, Cond.selects RX9 yX9_turn yX9_turn, Cond.code yX9_turn cX9_turn 1 (some .int), Cond.methodLink RX9 155 yX8_becomeLike, Cond.instanceMethod yX8_becomeLike]
def wsL_law_r37 : List Cond := [Cond.selects RX8 yX8_becomeLike yX8_becomeLike, Cond.code yX8_becomeLike cX8_becomeLike 2 none, Cond.methodLink RX8 44 Lib.Math.min.name, Cond.static Lib.Math.min.name, Cond.code Lib.Math.min.name Lib.Math.min.code 2 (some .int), Cond.methodLink RX8 47 arraycopyName, Cond.native arraycopyName, Cond.static arraycopyName, Cond.initialized "java/lang/System", Cond.methodLink RL 56 yX10_turn, Cond.instanceMethod yX10_turn, Cond.selects RX10 yX10_turn yX10_turn, Cond.code yX10_turn cX10_turn 2 (some .int), Cond.methodLink RL 57 yX9_count, Cond.instanceMethod yX9_count, Cond.selects RX9 yX9_count yX9_count, Cond.code yX9_count cX9_count 2 (some .int), Cond.methodLink RL 60 yX10_count, Cond.instanceMethod yX10_count, Cond.selects RX10 yX10_count yX10_count, Cond.code yX10_count cX10_count 2 (some .int), Cond.methodLink RL 61 yX9_size, Cond.instanceMethod yX9_size, Cond.selects RX9 yX9_size yX9_size]
def wsL_law_r38 : List Cond := [Cond.code yX9_size cX9_size 2 (some .int), Cond.methodLink RX9 159 yX4_bytesOf, Cond.methodLink RL 64 yX10_size, Cond.instanceMethod yX10_size, Cond.selects RX10 yX10_size yX10_size, Cond.code yX10_size cX10_size 2 (some .int), Cond.methodLink RL 65 yX9_time, Cond.instanceMethod yX9_time, Cond.selects RX9 yX9_time yX9_time, Cond.code yX9_time cX9_time 2 (some .long), Cond.methodLink RX9 163 yX4_timeOf, Cond.methodLink RL 69 yX10_time, Cond.instanceMethod yX10_time, Cond.selects RX10 yX10_time yX10_time, Cond.code yX10_time cX10_time 2 (some .long), Cond.methodLink RL 70 yX9_octet, Cond.instanceMethod yX9_octet, Cond.selects RX9 yX9_octet yX9_octet, Cond.code yX9_octet cX9_octet 3 (some .int), Cond.methodLink RX9 167 yX4_byteOf, Cond.instanceMethod yX4_byteOf, Cond.selects RX4 yX4_byteOf yX4_byteOf, Cond.code yX4_byteOf cX4_byteOf 3 (some .int), Cond.methodLink RX4 43 yX4_bytesOf]
def wsL_law_r39 : List Cond := [Cond.methodLink RX4 46 yX8_at, Cond.methodLink RL 74 yX10_octet, Cond.instanceMethod yX10_octet, Cond.selects RX10 yX10_octet yX10_octet, Cond.code yX10_octet cX10_octet 5 (some .int), Cond.methodLink RL 75 yX9_out, Cond.instanceMethod yX9_out, Cond.selects RX9 yX9_out yX9_out, Cond.code yX9_out cX9_out 2 (some .int), Cond.methodLink RX9 171 yX8_at, Cond.methodLink RL 78 yX10_out, Cond.instanceMethod yX10_out, Cond.selects RX10 yX10_out yX10_out, Cond.code yX10_out cX10_out 2 (some .int), Cond.methodLink RL 79 yX9_patch, Cond.instanceMethod yX9_patch, Cond.selects RX9 yX9_patch yX9_patch, Cond.code yX9_patch cX9_patch 3 (some .boolean), Cond.methodLink RX9 174 yX8_change, Cond.methodLink RL 83 yX10_patch, Cond.instanceMethod yX10_patch, Cond.selects RX10 yX10_patch yX10_patch, Cond.code yX10_patch cX10_patch 3 (some .boolean), Cond.methodLink RL 84 yX9_sum]
def wsL_law_r40 : List Cond := [Cond.instanceMethod yX9_sum, Cond.selects RX9 yX9_sum yX9_sum, Cond.code yX9_sum cX9_sum 3 (some .boolean), Cond.methodLink RX9 177 yX5_isMarked, Cond.methodLink RX9 181 yX5_endOf, Cond.methodLink RX9 185 yX5_makeSumRight, Cond.methodLink RL 88 yX10_sum, Cond.instanceMethod yX10_sum, Cond.selects RX10 yX10_sum yX10_sum, Cond.code yX10_sum cX10_sum 2 (some .boolean)]
def wsL_law : List Cond := (wsL_law_r1 ++ (wsL_law_r2 ++ (wsL_law_r3 ++ (wsL_law_r4 ++ (wsL_law_r5 ++ (wsL_law_r6 ++ (wsL_law_r7 ++ (wsL_law_r8 ++ (wsL_law_r9 ++ (wsL_law_r10 ++ (wsL_law_r11 ++ (wsL_law_r12 ++ (wsL_law_r13 ++ (wsL_law_r14 ++ (wsL_law_r15 ++ (wsL_law_r16 ++ (wsL_law_r17 ++ (wsL_law_r18 ++ (wsL_law_r19 ++ (wsL_law_r20 ++ (wsL_law_r21 ++ (wsL_law_r22 ++ (wsL_law_r23 ++ (wsL_law_r24 ++ (wsL_law_r25 ++ (wsL_law_r26 ++ (wsL_law_r27 ++ (wsL_law_r28 ++ (wsL_law_r29 ++ (wsL_law_r30 ++ (wsL_law_r31 ++ (wsL_law_r32 ++ (wsL_law_r33 ++ (wsL_law_r34 ++ (wsL_law_r35 ++ (wsL_law_r36 ++ (wsL_law_r37 ++ (wsL_law_r38 ++ (wsL_law_r39 ++ wsL_law_r40))))))))))))))))))))))))))))))))))))))) ++ wsX90 ++ wsX100 ++ wsX80 ++ wsX40 ++ wsX70 ++ wsX60 ++ wsX20 ++ wsX10 ++ wsX30 ++ ([] : List Cond)
theorem sub_app {T a b : List Cond} (ha : ∀ w ∈ a, w ∈ T) (hb : ∀ w ∈ b, w ∈ T) : ∀ w ∈ a ++ b, w ∈ T := fun w h => (List.mem_append.mp h).elim (ha w) (hb w)
theorem in_wsL_law_r40 : ∀ w ∈ wsL_law_r40, w ∈ wsL_law := fun _ h => (List.mem_append_left _ (List.mem_append_left _ (List.mem_append_left _ (List.mem_append_left _ (List.mem_append_left _ (List.mem_append_left _ (List.mem_append_left _ (List.mem_append_left _ (List.mem_append_left _ (List.mem_append_left _ (List.mem_append_right _ (List.mem_append_right _ (List.mem_append_right _ (List.mem_append_right _ (List.mem_append_right _ (List.mem_append_right _ (List.mem_append_right _ (List.mem_append_right _ (List.mem_append_right _ (List.mem_append_right _ (List.mem_append_right _ (List.mem_append_right _ (List.mem_append_right _ (List.mem_append_right _ (List.mem_append_right _ (List.mem_append_right _ (List.mem_append_right _ (List.mem_append_right _ (List.mem_append_right _ (List.mem_append_right _ (List.mem_append_right _ (List.mem_append_right _ (List.mem_append_right _ (List.mem_append_right _ (List.mem_append_right _ (List.mem_append_right _ (List.mem_append_right _ (List.mem_append_right _ (List.mem_append_right _ (List.mem_append_right _ (List.mem_append_right _ (List.mem_append_right _ (List.mem_append_right _ (List.mem_append_right _ (List.mem_append_right _ (List.mem_append_right _ (List.mem_append_right _ (List.mem_append_right _ (List.mem_append_right _ h)))))))))))))))))))))))))))))))))))))))))))))))))
theorem in_wsL_law_r39 : ∀ w ∈ wsL_law_r39, w ∈ wsL_law := fun _ h => (List.mem_append_left _ (List.mem_append_left _ (List.mem_append_left _ (List.mem_append_left _ (List.mem_append_left _ (List.mem_append_left _ (List.mem_append_left _ (List.mem_append_left _ (List.mem_append_left _ (List.mem_append_left _ (List.mem_append_right _ (List.mem_append_right _ (List.mem_append_right _ (List.mem_append_right _ (List.mem_append_right _ (List.mem_append_right _ (List.mem_append_right _ (List.mem_append_right _ (List.mem_append_right _ (List.mem_append_right _ (List.mem_append_right _ (List.mem_append_right _ (List.mem_append_right _ (List.mem_append_right _ (List.mem_append_right _ (List.mem_append_right _ (List.mem_append_right _ (List.mem_append_right _ (List.mem_append_right _ (List.mem_append_right _ (List.mem_append_right _ (List.mem_append_right _ (List.mem_append_right _ (List.mem_append_right _ (List.mem_append_right _ (List.mem_append_right _ (List.mem_append_right _ (List.mem_append_right _ (List.mem_append_right _ (List.mem_append_right _ (List.mem_append_right _ (List.mem_append_right _ (List.mem_append_right _ (List.mem_append_right _ (List.mem_append_right _ (List.mem_append_right _ (List.mem_append_right _ (List.mem_append_right _ (List.mem_append_left _ h)))))))))))))))))))))))))))))))))))))))))))))))))
theorem in_wsL_law_r38 : ∀ w ∈ wsL_law_r38, w ∈ wsL_law := fun _ h => (List.mem_append_left _ (List.mem_append_left _ (List.mem_append_left _ (List.mem_append_left _ (List.mem_append_left _ (List.mem_append_left _ (List.mem_append_left _ (List.mem_append_left _ (List.mem_append_left _ (List.mem_append_left _ (List.mem_append_right _ (List.mem_append_right _ (List.mem_append_right _ (List.mem_append_right _ (List.mem_append_right _ (List.mem_append_right _ (List.mem_append_right _ (List.mem_append_right _ (List.mem_append_right _ (List.mem_append_right _ (List.mem_append_right _ (List.mem_append_right _ (List.mem_append_right _ (List.mem_append_right _ (List.mem_append_right _ (List.mem_append_right _ (List.mem_append_right _ (List.mem_append_right _ (List.mem_append_right _ (List.mem_append_right _ (List.mem_append_right _ (List.mem_append_right _ (List.mem_append_right _ (List.mem_append_right _ (List.mem_append_right _ (List.mem_append_right _ (List.mem_append_right _ (List.mem_append_right _ (List.mem_append_right _ (List.mem_append_right _ (List.mem_append_right _ (List.mem_append_right _ (List.mem_append_right _ (List.mem_append_right _ (List.mem_append_right _ (List.mem_append_right _ (List.mem_append_right _ (List.mem_append_left _ h))))))))))))))))))))))))))))))))))))))))))))))))
theorem in_wsL_law_r37 : ∀ w ∈ wsL_law_r37, w ∈ wsL_law := fun _ h => (List.mem_append_left _ (List.mem_append_left _ (List.mem_append_left _ (List.mem_append_left _ (List.mem_append_left _ (List.mem_append_left _ (List.mem_append_left _ (List.mem_append_left _ (List.mem_append_left _ (List.mem_append_left _ (List.mem_append_right _ (List.mem_append_right _ (List.mem_append_right _ (List.mem_append_right _ (List.mem_append_right _ (List.mem_append_right _ (List.mem_append_right _ (List.mem_append_right _ (List.mem_append_right _ (List.mem_append_right _ (List.mem_append_right _ (List.mem_append_right _ (List.mem_append_right _ (List.mem_append_right _ (List.mem_append_right _ (List.mem_append_right _ (List.mem_append_right _ (List.mem_append_right _ (List.mem_append_right _ (List.mem_append_right _ (List.mem_append_right _ (List.mem_append_right _ (List.mem_append_right _ (List.mem_append_right _ (List.mem_append_right _ (List.mem_append_right _ (List.mem_append_right _ (List.mem_append_right _ (List.mem_append_right _ (List.mem_append_right _ (List.mem_append_right _ (List.mem_append_right _ (List.mem_append_right _ (List.mem_append_right _ (List.mem_append_right _ (List.mem_append_right _ (List.mem_append_left _ h)))))))))))))))))))))))))))))))))))))))))))))))
theorem in_wsL_law_r36 : ∀ w ∈ wsL_law_r36, w ∈ wsL_law := fun _ h => (List.mem_append_left _ (List.mem_append_left _ (List.mem_append_left _ (List.mem_append_left _ (List.mem_append_left _ (List.mem_append_left _ (List.mem_append_left _ (List.mem_append_left _ (List.mem_append_left _ (List.mem_append_left _ (List.mem_append_right _ (List.mem_append_right _ (List.mem_append_right _ (List.mem_append_right _ (List.mem_append_right _ (List.mem_append_right _ (List.mem_append_right _ (List.mem_append_right _ (List.mem_append_right _ (List.mem_append_right _ (List.mem_append_right _ (List.mem_append_right _ (List.mem_append_right _ (List.mem_append_right _ (List.mem_append_right _ (List.mem_append_right _ (List.mem_append_right _ (List.mem_append_right _ (List.mem_append_right _ (List.mem_append_right _ (List.mem_append_right _ (List.mem_append_right _ (List.mem_append_right _ (List.mem_append_right _ (List.mem_append_right _ (List.mem_append_right _ (List.mem_append_right _ (List.mem_append_right _ (List.mem_append_right _ (List.mem_append_right _ (List.mem_append_right _ (List.mem_append_right _ (List.mem_append_right _ (List.mem_append_right _ (List.mem_append_right _ (List.mem_append_left _ h))))))))))))))))))))))))))))))))))))))))))))))
theorem in_wsL_law_r35 : ∀ w ∈ wsL_law_r35, w ∈ wsL_law := fun _ h => (List.mem_append_left _ (List.mem_append_left _ (List.mem_append_left _ (List.mem_append_left _ (List.mem_append_left _ (List.mem_append_left _ (List.mem_append_left _ (List.mem_append_left _ (List.mem_append_left _ (List.mem_append_left _ (List.mem_append_right _ (List.mem_append_right _ (List.mem_append_right _ (List.mem_append_right _ (List.mem_append_right _ (List.mem_append_right _ (List.mem_append_right _ (List.mem_append_right _ (List.mem_append_right _ (List.mem_append_right _ (List.mem_append_right _ (List.mem_append_right _ (List.mem_append_right _ (List.mem_append_right _ (List.mem_append_right _ (List.mem_append_right _ (List.mem_append_right _ (List.mem_append_right _ (List.mem_append_right _ (List.mem_append_right _ (List.mem_append_right _ (List.mem_append_right _ (List.mem_append_right _ (List.mem_append_right _ (List.mem_append_right _ (List.mem_append_right _ (List.mem_append_right _ (List.mem_append_right _ (List.mem_append_right _ (List.mem_append_right _ (List.mem_append_right _ (List.mem_append_right _ (List.mem_append_right _ (List.mem_append_right _ (List.mem_append_left _ h)))))))))))))))))))))))))))))))))))))))))))))
theorem in_wsL_law_r34 : ∀ w ∈ wsL_law_r34, w ∈ wsL_law := fun _ h => (List.mem_append_left _ (List.mem_append_left _ (List.mem_append_left _ (List.mem_append_left _ (List.mem_append_left _ (List.mem_append_left _ (List.mem_append_left _ (List.mem_append_left _ (List.mem_append_left _ (List.mem_append_left _ (List.mem_append_right _ (List.mem_append_right _ (List.mem_append_right _ (List.mem_append_right _ (List.mem_append_right _ (List.mem_append_right _ (List.mem_append_right _ (List.mem_append_right _ (List.mem_append_right _ (List.mem_append_right _ (List.mem_append_right _ (List.mem_append_right _ (List.mem_append_right _ (List.mem_append_right _ (List.mem_append_right _ (List.mem_append_right _ (List.mem_append_right _ (List.mem_append_right _ (List.mem_append_right _ (List.mem_append_right _ (List.mem_append_right _ (List.mem_append_right _ (List.mem_append_right _ (List.mem_append_right _ (List.mem_append_right _ (List.mem_append_right _ (List.mem_append_right _ (List.mem_append_right _ (List.mem_append_right _ (List.mem_append_right _ (List.mem_append_right _ (List.mem_append_right _ (List.mem_append_right _ (List.mem_append_left _ h))))))))))))))))))))))))))))))))))))))))))))
theorem in_wsL_law_r33 : ∀ w ∈ wsL_law_r33, w ∈ wsL_law := fun _ h => (List.mem_append_left _ (List.mem_append_left _ (List.mem_append_left _ (List.mem_append_left _ (List.mem_append_left _ (List.mem_append_left _ (List.mem_append_left _ (List.mem_append_left _ (List.mem_append_left _ (List.mem_append_left _ (List.mem_append_right _ (List.mem_append_right _ (List.mem_append_right _ (List.mem_append_right _ (List.mem_append_right _ (List.mem_append_right _ (List.mem_append_right _ (List.mem_append_right _ (List.mem_append_right _ (List.mem_append_right _ (List.mem_append_right _ (List.mem_append_right _ (List.mem_append_right _ (List.mem_append_right _ (List.mem_append_right _ (List.mem_append_right _ (List.mem_append_right _ (List.mem_append_right _ (List.mem_append_right _ (List.mem_append_right _ (List.mem_append_right _ (List.mem_append_right _ (List.mem_append_right _ (List.mem_append_right _ (List.mem_append_right _ (List.mem_append_right _ (List.mem_append_right _ (List.mem_append_right _ (List.mem_append_right _ (List.mem_append_right _ (List.mem_append_right _ (List.mem_append_right _ (List.mem_append_left _ h)))))))))))))))))))))))))))))))))))))))))))
theorem in_wsL_law_r32 : ∀ w ∈ wsL_law_r32, w ∈ wsL_law := fun _ h => (List.mem_append_left _ (List.mem_append_left _ (List.mem_append_left _ (List.mem_append_left _ (List.mem_append_left _ (List.mem_append_left _ (List.mem_append_left _ (List.mem_append_left _ (List.mem_append_left _ (List.mem_append_left _ (List.mem_append_right _ (List.mem_append_right _ (List.mem_append_right _ (List.mem_append_right _ (List.mem_append_right _ (List.mem_append_right _ (List.mem_append_right _ (List.mem_append_right _ (List.mem_append_right _ (List.mem_append_right _ (List.mem_append_right _ (List.mem_append_right _ (List.mem_append_right _ (List.mem_append_right _ (List.mem_append_right _ (List.mem_append_right _ (List.mem_append_right _ (List.mem_append_right _ (List.mem_append_right _ (List.mem_append_right _ (List.mem_append_right _ (List.mem_append_right _ (List.mem_append_right _ (List.mem_append_right _ (List.mem_append_right _ (List.mem_append_right _ (List.mem_append_right _ (List.mem_append_right _ (List.mem_append_right _ (List.mem_append_right _ (List.mem_append_right _ (List.mem_append_left _ h))))))))))))))))))))))))))))))))))))))))))
theorem in_wsL_law_r31 : ∀ w ∈ wsL_law_r31, w ∈ wsL_law := fun _ h => (List.mem_append_left _ (List.mem_append_left _ (List.mem_append_left _ (List.mem_append_left _ (List.mem_append_left _ (List.mem_append_left _ (List.mem_append_left _ (List.mem_append_left _ (List.mem_append_left _ (List.mem_append_left _ (List.mem_append_right _ (List.mem_append_right _ (List.mem_append_right _ (List.mem_append_right _ (List.mem_append_right _ (List.mem_append_right _ (List.mem_append_right _ (List.mem_append_right _ (List.mem_append_right _ (List.mem_append_right _ (List.mem_append_right _ (List.mem_append_right _ (List.mem_append_right _ (List.mem_append_right _ (List.mem_append_right _ (List.mem_append_right _ (List.mem_append_right _ (List.mem_append_right _ (List.mem_append_right _ (List.mem_append_right _ (List.mem_append_right _ (List.mem_append_right _ (List.mem_append_right _ (List.mem_append_right _ (List.mem_append_right _ (List.mem_append_right _ (List.mem_append_right _ (List.mem_append_right _ (List.mem_append_right _ (List.mem_append_right _ (List.mem_append_left _ h)))))))))))))))))))))))))))))))))))))))))
theorem in_wsL_law_r30 : ∀ w ∈ wsL_law_r30, w ∈ wsL_law := fun _ h => (List.mem_append_left _ (List.mem_append_left _ (List.mem_append_left _ (List.mem_append_left _ (List.mem_append_left _ (List.mem_append_left _ (List.mem_append_left _ (List.mem_append_left _ (List.mem_append_left _ (List.mem_append_left _ (List.mem_append_right _ (List.mem_append_right _ (List.mem_append_right _ (List.mem_append_right _ (List.mem_append_right _ (List.mem_append_right _ (List.mem_append_right _ (List.mem_append_right _ (List.mem_append_right _ (List.mem_append_right _ (List.mem_append_right _ (List.mem_append_right _ (List.mem_append_right _ (List.mem_append_right _ (List.mem_append_right _ (List.mem_append_right _ (List.mem_append_right _ (List.mem_append_right _ (List.mem_append_right _ (List.mem_append_right _ (List.mem_append_right _ (List.mem_append_right _ (List.mem_append_right _ (List.mem_append_right _ (List.mem_append_right _ (List.mem_append_right _ (List.mem_append_right _ (List.mem_append_right _ (List.mem_append_right _ (List.mem_append_left _ h))))))))))))))))))))))))))))))))))))))))
theorem in_wsL_law_r29 : ∀ w ∈ wsL_law_r29, w ∈ wsL_law := fun _ h => (List.mem_append_left _ (List.mem_append_left _ (List.mem_append_left _ (List.mem_append_left _ (List.mem_append_left _ (List.mem_append_left _ (List.mem_append_left _ (List.mem_append_left _ (List.mem_append_left _ (List.mem_append_left _ (List.mem_append_right _ (List.mem_append_right _ (List.mem_append_right _ (List.mem_append_right _ (List.mem_append_right _ (List.mem_append_right _ (List.mem_append_right _ (List.mem_append_right _ (List.mem_append_right _ (List.mem_append_right _ (List.mem_append_right _ (List.mem_append_right _ (List.mem_append_right _ (List.mem_append_right _ (List.mem_append_right _ (List.mem_append_right _ (List.mem_append_right _ (List.mem_append_right _ (List.mem_append_right _ (List.mem_append_right _ (List.mem_append_right _ (List.mem_append_right _ (List.mem_append_right _ (List.mem_append_right _ (List.mem_append_right _ (List.mem_append_right _ (List.mem_append_right _ (List.mem_append_right _ (List.mem_append_left _ h)))))))))))))))))))))))))))))))))))))))
theorem in_wsL_law_r28 : ∀ w ∈ wsL_law_r28, w ∈ wsL_law := fun _ h => (List.mem_append_left _ (List.mem_append_left _ (List.mem_append_left _ (List.mem_append_left _ (List.mem_append_left _ (List.mem_append_left _ (List.mem_append_left _ (List.mem_append_left _ (List.mem_append_left _ (List.mem_append_left _ (List.mem_append_right _ (List.mem_append_right _ (List.mem_append_right _ (List.mem_append_right _ (List.mem_append_right _ (List.mem_append_right _ (List.mem_append_right _ (List.mem_append_right _ (List.mem_append_right _ (List.mem_append_right _ (List.mem_append_right _ (List.mem_append_right _ (List.mem_append_right _ (List.mem_append_right _ (List.mem_append_right _ (List.mem_append_right _ (List.mem_append_right _ (List.mem_append_right _ (List.mem_append_right _ (List.mem_append_right _ (List.mem_append_right _ (List.mem_append_right _ (List.mem_append_right _ (List.mem_append_right _ (List.mem_append_right _ (List.mem_append_right _ (List.mem_append_right _ (List.mem_append_left _ h))))))))))))))))))))))))))))))))))))))
theorem in_wsL_law_r27 : ∀ w ∈ wsL_law_r27, w ∈ wsL_law := fun _ h => (List.mem_append_left _ (List.mem_append_left _ (List.mem_append_left _ (List.mem_append_left _ (List.mem_append_left _ (List.mem_append_left _ (List.mem_append_left _ (List.mem_append_left _ (List.mem_append_left _ (List.mem_append_left _ (List.mem_append_right _ (List.mem_append_right _ (List.mem_append_right _ (List.mem_append_right _ (List.mem_append_right _ (List.mem_append_right _ (List.mem_append_right _ (List.mem_append_right _ (List.mem_append_right _ (List.mem_append_right _ (List.mem_append_right _ (List.mem_append_right _ (List.mem_append_right _ (List.mem_append_right _ (List.mem_append_right _ (List.mem_append_right _ (List.mem_append_right _ (List.mem_append_right _ (List.mem_append_right _ (List.mem_append_right _ (List.mem_append_right _ (List.mem_append_right _ (List.mem_append_right _ (List.mem_append_right _ (List.mem_append_right _ (List.mem_append_right _ (List.mem_append_left _ h)))))))))))))))))))))))))))))))))))))
theorem in_wsL_law_r26 : ∀ w ∈ wsL_law_r26, w ∈ wsL_law := fun _ h => (List.mem_append_left _ (List.mem_append_left _ (List.mem_append_left _ (List.mem_append_left _ (List.mem_append_left _ (List.mem_append_left _ (List.mem_append_left _ (List.mem_append_left _ (List.mem_append_left _ (List.mem_append_left _ (List.mem_append_right _ (List.mem_append_right _ (List.mem_append_right _ (List.mem_append_right _ (List.mem_append_right _ (List.mem_append_right _ (List.mem_append_right _ (List.mem_append_right _ (List.mem_append_right _ (List.mem_append_right _ (List.mem_append_right _ (List.mem_append_right _ (List.mem_append_right _ (List.mem_append_right _ (List.mem_append_right _ (List.mem_append_right _ (List.mem_append_right _ (List.mem_append_right _ (List.mem_append_right _ (List.mem_append_right _ (List.mem_append_right _ (List.mem_append_right _ (List.mem_append_right _ (List.mem_append_right _ (List.mem_append_right _ (List.mem_append_left _ h))))))))))))))))))))))))))))))))))))
theorem in_wsL_law_r25 : ∀ w ∈ wsL_law_r25, w ∈ wsL_law := fun _ h => (List.mem_append_left _ (List.mem_append_left _ (List.mem_append_left _ (List.mem_append_left _ (List.mem_append_left _ (List.mem_append_left _ (List.mem_append_left _ (List.mem_append_left _ (List.mem_append_left _ (List.mem_append_left _ (List.mem_append_right _ (List.mem_append_right _ (List.mem_append_right _ (List.mem_append_right _ (List.mem_append_right _ (List.mem_append_right _ (List.mem_append_right _ (List.mem_append_right _ (List.mem_append_right _ (List.mem_append_right _ (List.mem_append_right _ (List.mem_append_right _ (List.mem_append_right _ (List.mem_append_right _ (List.mem_append_right _ (List.mem_append_right _ (List.mem_append_right _ (List.mem_append_right _ (List.mem_append_right _ (List.mem_append_right _ (List.mem_append_right _ (List.mem_append_right _ (List.mem_append_right _ (List.mem_append_right _ (List.mem_append_left _ h)))))))))))))))))))))))))))))))))))
theorem in_wsL_law_r24 : ∀ w ∈ wsL_law_r24, w ∈ wsL_law := fun _ h => (List.mem_append_left _ (List.mem_append_left _ (List.mem_append_left _ (List.mem_append_left _ (List.mem_append_left _ (List.mem_append_left _ (List.mem_append_left _ (List.mem_append_left _ (List.mem_append_left _ (List.mem_append_left _ (List.mem_append_right _ (List.mem_append_right _ (List.mem_append_right _ (List.mem_append_right _ (List.mem_append_right _ (List.mem_append_right _ (List.mem_append_right _ (List.mem_append_right _ (List.mem_append_right _ (List.mem_append_right _ (List.mem_append_right _ (List.mem_append_right _ (List.mem_append_right _ (List.mem_append_right _ (List.mem_append_right _ (List.mem_append_right _ (List.mem_append_right _ (List.mem_append_right _ (List.mem_append_right _ (List.mem_append_right _ (List.mem_append_right _ (List.mem_append_right _ (List.mem_append_right _ (List.mem_append_left _ h))))))))))))))))))))))))))))))))))
theorem in_wsL_law_r23 : ∀ w ∈ wsL_law_r23, w ∈ wsL_law := fun _ h => (List.mem_append_left _ (List.mem_append_left _ (List.mem_append_left _ (List.mem_append_left _ (List.mem_append_left _ (List.mem_append_left _ (List.mem_append_left _ (List.mem_append_left _ (List.mem_append_left _ (List.mem_append_left _ (List.mem_append_right _ (List.mem_append_right _ (List.mem_append_right _ (List.mem_append_right _ (List.mem_append_right _ (List.mem_append_right _ (List.mem_append_right _ (List.mem_append_right _ (List.mem_append_right _ (List.mem_append_right _ (List.mem_append_right _ (List.mem_append_right _ (List.mem_append_right _ (List.mem_append_right _ (List.mem_append_right _ (List.mem_append_right _ (List.mem_append_right _ (List.mem_append_right _ (List.mem_append_right _ (List.mem_append_right _ (List.mem_append_right _ (List.mem_append_right _ (List.mem_append_left _ h)))))))))))))))))))))))))))))))))
theorem in_wsL_law_r22 : ∀ w ∈ wsL_law_r22, w ∈ wsL_law := fun _ h => (List.mem_append_left _ (List.mem_append_left _ (List.mem_append_left _ (List.mem_append_left _ (List.mem_append_left _ (List.mem_append_left _ (List.mem_append_left _ (List.mem_append_left _ (List.mem_append_left _ (List.mem_append_left _ (List.mem_append_right _ (List.mem_append_right _ (List.mem_append_right _ (List.mem_append_right _ (List.mem_append_right _ (List.mem_append_right _ (List.mem_append_right _ (List.mem_append_right _ (List.mem_append_right _ (List.mem_append_right _ (List.mem_append_right _ (List.mem_append_right _ (List.mem_append_right _ (List.mem_append_right _ (List.mem_append_right _ (List.mem_append_right _ (List.mem_append_right _ (List.mem_append_right _ (List.mem_append_right _ (List.mem_append_right _ (List.mem_append_right _ (List.mem_append_left _ h))))))))))))))))))))))))))))))))
theorem in_wsL_law_r21 : ∀ w ∈ wsL_law_r21, w ∈ wsL_law := fun _ h => (List.mem_append_left _ (List.mem_append_left _ (List.mem_append_left _ (List.mem_append_left _ (List.mem_append_left _ (List.mem_append_left _ (List.mem_append_left _ (List.mem_append_left _ (List.mem_append_left _ (List.mem_append_left _ (List.mem_append_right _ (List.mem_append_right _ (List.mem_append_right _ (List.mem_append_right _ (List.mem_append_right _ (List.mem_append_right _ (List.mem_append_right _ (List.mem_append_right _ (List.mem_append_right _ (List.mem_append_right _ (List.mem_append_right _ (List.mem_append_right _ (List.mem_append_right _ (List.mem_append_right _ (List.mem_append_right _ (List.mem_append_right _ (List.mem_append_right _ (List.mem_append_right _ (List.mem_append_right _ (List.mem_append_right _ (List.mem_append_left _ h)))))))))))))))))))))))))))))))
theorem in_wsL_law_r20 : ∀ w ∈ wsL_law_r20, w ∈ wsL_law := fun _ h => (List.mem_append_left _ (List.mem_append_left _ (List.mem_append_left _ (List.mem_append_left _ (List.mem_append_left _ (List.mem_append_left _ (List.mem_append_left _ (List.mem_append_left _ (List.mem_append_left _ (List.mem_append_left _ (List.mem_append_right _ (List.mem_append_right _ (List.mem_append_right _ (List.mem_append_right _ (List.mem_append_right _ (List.mem_append_right _ (List.mem_append_right _ (List.mem_append_right _ (List.mem_append_right _ (List.mem_append_right _ (List.mem_append_right _ (List.mem_append_right _ (List.mem_append_right _ (List.mem_append_right _ (List.mem_append_right _ (List.mem_append_right _ (List.mem_append_right _ (List.mem_append_right _ (List.mem_append_right _ (List.mem_append_left _ h))))))))))))))))))))))))))))))
theorem in_wsL_law_r19 : ∀ w ∈ wsL_law_r19, w ∈ wsL_law := fun _ h => (List.mem_append_left _ (List.mem_append_left _ (List.mem_append_left _ (List.mem_append_left _ (List.mem_append_left _ (List.mem_append_left _ (List.mem_append_left _ (List.mem_append_left _ (List.mem_append_left _ (List.mem_append_left _ (List.mem_append_right _ (List.mem_append_right _ (List.mem_append_right _ (List.mem_append_right _ (List.mem_append_right _ (List.mem_append_right _ (List.mem_append_right _ (List.mem_append_right _ (List.mem_append_right _ (List.mem_append_right _ (List.mem_append_right _ (List.mem_append_right _ (List.mem_append_right _ (List.mem_append_right _ (List.mem_append_right _ (List.mem_append_right _ (List.mem_append_right _ (List.mem_append_right _ (List.mem_append_left _ h)))))))))))))))))))))))))))))
theorem in_wsL_law_r18 : ∀ w ∈ wsL_law_r18, w ∈ wsL_law := fun _ h => (List.mem_append_left _ (List.mem_append_left _ (List.mem_append_left _ (List.mem_append_left _ (List.mem_append_left _ (List.mem_append_left _ (List.mem_append_left _ (List.mem_append_left _ (List.mem_append_left _ (List.mem_append_left _ (List.mem_append_right _ (List.mem_append_right _ (List.mem_append_right _ (List.mem_append_right _ (List.mem_append_right _ (List.mem_append_right _ (List.mem_append_right _ (List.mem_append_right _ (List.mem_append_right _ (List.mem_append_right _ (List.mem_append_right _ (List.mem_append_right _ (List.mem_append_right _ (List.mem_append_right _ (List.mem_append_right _ (List.mem_append_right _ (List.mem_append_right _ (List.mem_append_left _ h))))))))))))))))))))))))))))
theorem in_wsL_law_r17 : ∀ w ∈ wsL_law_r17, w ∈ wsL_law := fun _ h => (List.mem_append_left _ (List.mem_append_left _ (List.mem_append_left _ (List.mem_append_left _ (List.mem_append_left _ (List.mem_append_left _ (List.mem_append_left _ (List.mem_append_left _ (List.mem_append_left _ (List.mem_append_left _ (List.mem_append_right _ (List.mem_append_right _ (List.mem_append_right _ (List.mem_append_right _ (List.mem_append_right _ (List.mem_append_right _ (List.mem_append_right _ (List.mem_append_right _ (List.mem_append_right _ (List.mem_append_right _ (List.mem_append_right _ (List.mem_append_right _ (List.mem_append_right _ (List.mem_append_right _ (List.mem_append_right _ (List.mem_append_right _ (List.mem_append_left _ h)))))))))))))))))))))))))))
theorem in_wsL_law_r16 : ∀ w ∈ wsL_law_r16, w ∈ wsL_law := fun _ h => (List.mem_append_left _ (List.mem_append_left _ (List.mem_append_left _ (List.mem_append_left _ (List.mem_append_left _ (List.mem_append_left _ (List.mem_append_left _ (List.mem_append_left _ (List.mem_append_left _ (List.mem_append_left _ (List.mem_append_right _ (List.mem_append_right _ (List.mem_append_right _ (List.mem_append_right _ (List.mem_append_right _ (List.mem_append_right _ (List.mem_append_right _ (List.mem_append_right _ (List.mem_append_right _ (List.mem_append_right _ (List.mem_append_right _ (List.mem_append_right _ (List.mem_append_right _ (List.mem_append_right _ (List.mem_append_right _ (List.mem_append_left _ h))))))))))))))))))))))))))
theorem in_wsL_law_r15 : ∀ w ∈ wsL_law_r15, w ∈ wsL_law := fun _ h => (List.mem_append_left _ (List.mem_append_left _ (List.mem_append_left _ (List.mem_append_left _ (List.mem_append_left _ (List.mem_append_left _ (List.mem_append_left _ (List.mem_append_left _ (List.mem_append_left _ (List.mem_append_left _ (List.mem_append_right _ (List.mem_append_right _ (List.mem_append_right _ (List.mem_append_right _ (List.mem_append_right _ (List.mem_append_right _ (List.mem_append_right _ (List.mem_append_right _ (List.mem_append_right _ (List.mem_append_right _ (List.mem_append_right _ (List.mem_append_right _ (List.mem_append_right _ (List.mem_append_right _ (List.mem_append_left _ h)))))))))))))))))))))))))
theorem in_wsL_law_r14 : ∀ w ∈ wsL_law_r14, w ∈ wsL_law := fun _ h => (List.mem_append_left _ (List.mem_append_left _ (List.mem_append_left _ (List.mem_append_left _ (List.mem_append_left _ (List.mem_append_left _ (List.mem_append_left _ (List.mem_append_left _ (List.mem_append_left _ (List.mem_append_left _ (List.mem_append_right _ (List.mem_append_right _ (List.mem_append_right _ (List.mem_append_right _ (List.mem_append_right _ (List.mem_append_right _ (List.mem_append_right _ (List.mem_append_right _ (List.mem_append_right _ (List.mem_append_right _ (List.mem_append_right _ (List.mem_append_right _ (List.mem_append_right _ (List.mem_append_left _ h))))))))))))))))))))))))
theorem in_wsL_law_r13 : ∀ w ∈ wsL_law_r13, w ∈ wsL_law := fun _ h => (List.mem_append_left _ (List.mem_append_left _ (List.mem_append_left _ (List.mem_append_left _ (List.mem_append_left _ (List.mem_append_left _ (List.mem_append_left _ (List.mem_append_left _ (List.mem_append_left _ (List.mem_append_left _ (List.mem_append_right _ (List.mem_append_right _ (List.mem_append_right _ (List.mem_append_right _ (List.mem_append_right _ (List.mem_append_right _ (List.mem_append_right _ (List.mem_append_right _ (List.mem_append_right _ (List.mem_append_right _ (List.mem_append_right _ (List.mem_append_right _ (List.mem_append_left _ h)))))))))))))))))))))))
theorem in_wsL_law_r12 : ∀ w ∈ wsL_law_r12, w ∈ wsL_law := fun _ h => (List.mem_append_left _ (List.mem_append_left _ (List.mem_append_left _ (List.mem_append_left _ (List.mem_append_left _ (List.mem_append_left _ (List.mem_append_left _ (List.mem_append_left _ (List.mem_append_left _ (List.mem_append_left _ (List.mem_append_right _ (List.mem_append_right _ (List.mem_append_right _ (List.mem_append_right _ (List.mem_append_right _ (List.mem_append_right _ (List.mem_append_right _ (List.mem_append_right _ (List.mem_append_right _ (List.mem_append_right _ (List.mem_append_right _ (List.mem_append_left _ h))))))))))))))))))))))
theorem in_wsL_law_r11 : ∀ w ∈ wsL_law_r11, w ∈ wsL_law := fun _ h => (List.mem_append_left _ (List.mem_append_left _ (List.mem_append_left _ (List.mem_append_left _ (List.mem_append_left _ (List.mem_append_left _ (List.mem_append_left _ (List.mem_append_left _ (List.mem_append_left _ (List.mem_append_left _ (List.mem_append_right _ (List.mem_append_right _ (List.mem_append_right _ (List.mem_append_right _ (List.mem_append_right _ (List.mem_append_right _ (List.mem_append_right _ (List.mem_append_right _ (List.mem_append_right _ (List.mem_append_right _ (List.mem_append_left _ h)))))))))))))))))))))
theorem in_wsL_law_r10 : ∀ w ∈ wsL_law_r10, w ∈ wsL_law := fun _ h => (List.mem_append_left _ (List.mem_append_left _ (List.mem_append_left _ (List.mem_append_left _ (List.mem_append_left _ (List.mem_append_left _ (List.mem_append_left _ (List.mem_append_left _ (List.mem_append_left _ (List.mem_append_left _ (List.mem_append_right _ (List.mem_append_right _ (List.mem_append_right _ (List.mem_append_right _ (List.mem_append_right _ (List.mem_append_right _ (List.mem_append_right _ (List.mem_append_right _ (List.mem_append_right _ (List.mem_append_left _ h))))))))))))))))))))
theorem in_wsL_law_r9 : ∀ w ∈ wsL_law_r9, w ∈ wsL_law := fun _ h => (List.mem_append_left _ (List.mem_append_left _ (List.mem_append_left _ (List.mem_append_left _ (List.mem_append_left _ (List.mem_append_left _ (List.mem_append_left _ (List.mem_append_left _ (List.mem_append_left _ (List.mem_append_left _ (List.mem_append_right _ (List.mem_append_right _ (List.mem_append_right _ (List.mem_append_right _ (List.mem_append_right _ (List.mem_append_right _ (List.mem_append_right _ (List.mem_append_right _ (List.mem_append_left _ h)))))))))))))))))))
theorem in_wsL_law_r8 : ∀ w ∈ wsL_law_r8, w ∈ wsL_law := fun _ h => (List.mem_append_left _ (List.mem_append_left _ (List.mem_append_left _ (List.mem_append_left _ (List.mem_append_left _ (List.mem_append_left _ (List.mem_append_left _ (List.mem_append_left _ (List.mem_append_left _ (List.mem_append_left _ (List.mem_append_right _ (List.mem_append_right _ (List.mem_append_right _ (List.mem_append_right _ (List.mem_append_right _ (List.mem_append_right _ (List.mem_append_right _ (List.mem_append_left _ h))))))))))))))))))
theorem in_wsL_law_r7 : ∀ w ∈ wsL_law_r7, w ∈ wsL_law := fun _ h => (List.mem_append_left _ (List.mem_append_left _ (List.mem_append_left _ (List.mem_append_left _ (List.mem_append_left _ (List.mem_append_left _ (List.mem_append_left _ (List.mem_append_left _ (List.mem_append_left _ (List.mem_append_left _ (List.mem_append_right _ (List.mem_append_right _ (List.mem_append_right _ (List.mem_append_right _ (List.mem_append_right _ (List.mem_append_right _ (List.mem_append_left _ h)))))))))))))))))
theorem in_wsL_law_r6 : ∀ w ∈ wsL_law_r6, w ∈ wsL_law := fun _ h => (List.mem_append_left _ (List.mem_append_left _ (List.mem_append_left _ (List.mem_append_left _ (List.mem_append_left _ (List.mem_append_left _ (List.mem_append_left _ (List.mem_append_left _ (List.mem_append_left _ (List.mem_append_left _ (List.mem_append_right _ (List.mem_append_right _ (List.mem_append_right _ (List.mem_append_right _ (List.mem_append_right _ (List.mem_append_left _ h))))))))))))))))
theorem in_wsL_law_r5 : ∀ w ∈ wsL_law_r5, w ∈ wsL_law := fun _ h => (List.mem_append_left _ (List.mem_append_left _ (List.mem_append_left _ (List.mem_append_left _ (List.mem_append_left _ (List.mem_append_left _ (List.mem_append_left _ (List.mem_append_left _ (List.mem_append_left _ (List.mem_append_left _ (List.mem_append_right _ (List.mem_append_right _ (List.mem_append_right _ (List.mem_append_right _ (List.mem_append_left _ h)))))))))))))))
theorem in_wsL_law_r4 : ∀ w ∈ wsL_law_r4, w ∈ wsL_law := fun _ h => (List.mem_append_left _ (List.mem_append_left _ (List.mem_append_left _ (List.mem_append_left _ (List.mem_append_left _ (List.mem_append_left _ (List.mem_append_left _ (List.mem_append_left _ (List.mem_append_left _ (List.mem_append_left _ (List.mem_append_right _ (List.mem_append_right _ (List.mem_append_right _ (List.mem_append_left _ h))))))))))))))
theorem in_wsL_law_r3 : ∀ w ∈ wsL_law_r3, w ∈ wsL_law := fun _ h => (List.mem_append_left _ (List.mem_append_left _ (List.mem_append_left _ (List.mem_append_left _ (List.mem_append_left _ (List.mem_append_left _ (List.mem_append_left _ (List.mem_append_left _ (List.mem_append_left _ (List.mem_append_left _ (List.mem_append_right _ (List.mem_append_right _ (List.mem_append_left _ h)))))))))))))
theorem in_wsL_law_r2 : ∀ w ∈ wsL_law_r2, w ∈ wsL_law := fun _ h => (List.mem_append_left _ (List.mem_append_left _ (List.mem_append_left _ (List.mem_append_left _ (List.mem_append_left _ (List.mem_append_left _ (List.mem_append_left _ (List.mem_append_left _ (List.mem_append_left _ (List.mem_append_left _ (List.mem_append_right _ (List.mem_append_left _ h))))))))))))
theorem in_wsL_law_r1 : ∀ w ∈ wsL_law_r1, w ∈ wsL_law := fun _ h => (List.mem_append_left _ (List.mem_append_left _ (List.mem_append_left _ (List.mem_append_left _ (List.mem_append_left _ (List.mem_append_left _ (List.mem_append_left _ (List.mem_append_left _ (List.mem_append_left _ (List.mem_append_left _ (List.mem_append_left _ h)))))))))))
theorem u_0 : Cond.classLink RL 7 RX9 ∈ wsL_law := in_wsL_law_r1 _ (List.mem_of_getElem? (i := 0) rfl)
theorem u_1 : Cond.instantiable RX9 14 ∈ wsL_law := in_wsL_law_r1 _ (List.mem_of_getElem? (i := 1) rfl)
theorem u_2 : Cond.initialized RX9 ∈ wsL_law := in_wsL_law_r1 _ (List.mem_of_getElem? (i := 2) rfl)
theorem u_3 : Cond.classLink RL 10 RX10 ∈ wsL_law := in_wsL_law_r1 _ (List.mem_of_getElem? (i := 3) rfl)
theorem u_4 : Cond.instantiable RX10 46 ∈ wsL_law := in_wsL_law_r1 _ (List.mem_of_getElem? (i := 4) rfl)
theorem u_5 : Cond.initialized RX10 ∈ wsL_law := in_wsL_law_r1 _ (List.mem_of_getElem? (i := 5) rfl)
theorem u_6 : Cond.constantLong RL 18 (4294967295) ∈ wsL_law := in_wsL_law_r1 _ (List.mem_of_getElem? (i := 6) rfl)
theorem u_7 : Cond.methodLink RL 9 yX9_init ∈ wsL_law := in_wsL_law_r1 _ (List.mem_of_getElem? (i := 7) rfl)
theorem u_8 : Cond.instanceMethod yX9_init ∈ wsL_law := in_wsL_law_r1 _ (List.mem_of_getElem? (i := 8) rfl)
theorem u_9 : Cond.code yX9_init cX9_init 1 none ∈ wsL_law := in_wsL_law_r1 _ (List.mem_of_getElem? (i := 9) rfl)
theorem u_10 : Cond.methodLink RX9 1 objectInit ∈ wsL_law := in_wsL_law_r1 _ (List.mem_of_getElem? (i := 10) rfl)
theorem u_11 : Cond.instanceMethod objectInit ∈ wsL_law := in_wsL_law_r1 _ (List.mem_of_getElem? (i := 11) rfl)
theorem u_12 : Cond.code objectInit ⟨#[0xb1]⟩ 1 none ∈ wsL_law := in_wsL_law_r1 _ (List.mem_of_getElem? (i := 12) rfl)
theorem u_13 : Cond.classLink RX9 7 RX8 ∈ wsL_law := in_wsL_law_r1 _ (List.mem_of_getElem? (i := 13) rfl)
theorem u_14 : Cond.instantiable RX8 4 ∈ wsL_law := in_wsL_law_r1 _ (List.mem_of_getElem? (i := 14) rfl)
theorem u_15 : Cond.initialized RX8 ∈ wsL_law := in_wsL_law_r1 _ (List.mem_of_getElem? (i := 15) rfl)
theorem u_16 : Cond.fieldLink RX9 14 "StreamRemuxer" "tape" "LStreamRemuxer$Row;" ∈ wsL_law := in_wsL_law_r1 _ (List.mem_of_getElem? (i := 16) rfl)
theorem u_17 : Cond.fieldLink RX9 18 "StreamRemuxer" "outRow" "LStreamRemuxer$Row;" ∈ wsL_law := in_wsL_law_r1 _ (List.mem_of_getElem? (i := 17) rfl)
theorem u_18 : Cond.fieldLink RX9 21 "StreamRemuxer" "spareRow" "LStreamRemuxer$Row;" ∈ wsL_law := in_wsL_law_r1 _ (List.mem_of_getElem? (i := 18) rfl)
theorem u_19 : Cond.classLink RX9 24 RX4 ∈ wsL_law := in_wsL_law_r1 _ (List.mem_of_getElem? (i := 19) rfl)
theorem u_20 : Cond.instantiable RX4 4 ∈ wsL_law := in_wsL_law_r1 _ (List.mem_of_getElem? (i := 20) rfl)
theorem u_21 : Cond.initialized RX4 ∈ wsL_law := in_wsL_law_r1 _ (List.mem_of_getElem? (i := 21) rfl)
theorem u_22 : Cond.fieldLink RX9 27 "StreamRemuxer" "list" "LStreamRemuxer$PacketList;" ∈ wsL_law := in_wsL_law_r1 _ (List.mem_of_getElem? (i := 22) rfl)
theorem u_23 : Cond.fieldLink RX9 31 "StreamRemuxer" "spareList" "LStreamRemuxer$PacketList;" ∈ wsL_law := in_wsL_law_r1 _ (List.mem_of_getElem? (i := 23) rfl)
theorem u_24 : Cond.classLink RX9 34 RX7 ∈ wsL_law := in_wsL_law_r2 _ (List.mem_of_getElem? (i := 0) rfl)
theorem u_25 : Cond.instantiable RX7 10 ∈ wsL_law := in_wsL_law_r2 _ (List.mem_of_getElem? (i := 1) rfl)
theorem u_26 : Cond.initialized RX7 ∈ wsL_law := in_wsL_law_r2 _ (List.mem_of_getElem? (i := 2) rfl)
theorem u_27 : Cond.fieldLink RX9 37 "StreamRemuxer" "pageWriter" "LStreamRemuxer$PageWriter;" ∈ wsL_law := in_wsL_law_r2 _ (List.mem_of_getElem? (i := 3) rfl)
theorem u_28 : Cond.classLink RX9 41 RX6 ∈ wsL_law := in_wsL_law_r2 _ (List.mem_of_getElem? (i := 4) rfl)
theorem u_29 : Cond.instantiable RX6 10 ∈ wsL_law := in_wsL_law_r2 _ (List.mem_of_getElem? (i := 5) rfl)
theorem u_30 : Cond.initialized RX6 ∈ wsL_law := in_wsL_law_r2 _ (List.mem_of_getElem? (i := 6) rfl)
theorem u_31 : Cond.fieldLink RX9 44 "StreamRemuxer" "pageReader" "LStreamRemuxer$PageReader;" ∈ wsL_law := in_wsL_law_r2 _ (List.mem_of_getElem? (i := 7) rfl)
theorem u_32 : Cond.classLink RX9 48 RX2 ∈ wsL_law := in_wsL_law_r2 _ (List.mem_of_getElem? (i := 8) rfl)
theorem u_33 : Cond.instantiable RX2 6 ∈ wsL_law := in_wsL_law_r2 _ (List.mem_of_getElem? (i := 9) rfl)
theorem u_34 : Cond.initialized RX2 ∈ wsL_law := in_wsL_law_r2 _ (List.mem_of_getElem? (i := 10) rfl)
theorem u_35 : Cond.fieldLink RX9 51 "StreamRemuxer" "elementWriter" "LStreamRemuxer$ElementWriter;" ∈ wsL_law := in_wsL_law_r2 _ (List.mem_of_getElem? (i := 11) rfl)
theorem u_36 : Cond.classLink RX9 55 RX1 ∈ wsL_law := in_wsL_law_r2 _ (List.mem_of_getElem? (i := 12) rfl)
theorem u_37 : Cond.instantiable RX1 13 ∈ wsL_law := in_wsL_law_r2 _ (List.mem_of_getElem? (i := 13) rfl)
theorem u_38 : Cond.initialized RX1 ∈ wsL_law := in_wsL_law_r2 _ (List.mem_of_getElem? (i := 14) rfl)
theorem u_39 : Cond.fieldLink RX9 58 "StreamRemuxer" "elementReader" "LStreamRemuxer$ElementReader;" ∈ wsL_law := in_wsL_law_r2 _ (List.mem_of_getElem? (i := 15) rfl)
theorem u_40 : Cond.fieldLink RX9 62 "StreamRemuxer" "fault" "I" ∈ wsL_law := in_wsL_law_r2 _ (List.mem_of_getElem? (i := 16) rfl)
theorem u_41 : Cond.fieldLink RX9 66 "StreamRemuxer" "faultPlace" "I" ∈ wsL_law := in_wsL_law_r2 _ (List.mem_of_getElem? (i := 17) rfl)
theorem u_42 : Cond.methodLink RX9 11 yX8_init ∈ wsL_law := in_wsL_law_r2 _ (List.mem_of_getElem? (i := 18) rfl)
theorem u_43 : Cond.instanceMethod yX8_init ∈ wsL_law := in_wsL_law_r2 _ (List.mem_of_getElem? (i := 19) rfl)
theorem u_44 : Cond.code yX8_init cX8_init 2 none ∈ wsL_law := in_wsL_law_r2 _ (List.mem_of_getElem? (i := 20) rfl)
theorem u_45 : Cond.methodLink RX8 3 objectInit ∈ wsL_law := in_wsL_law_r2 _ (List.mem_of_getElem? (i := 21) rfl)
theorem u_46 : Cond.methodLink RX8 9 Lib.Math.max.name ∈ wsL_law := in_wsL_law_r2 _ (List.mem_of_getElem? (i := 22) rfl)
theorem u_47 : Cond.static Lib.Math.max.name ∈ wsL_law := in_wsL_law_r2 _ (List.mem_of_getElem? (i := 23) rfl)
theorem u_48 : Cond.initialized "java/lang/Math" ∈ wsL_law := in_wsL_law_r3 _ (List.mem_of_getElem? (i := 0) rfl)
theorem u_49 : Cond.code Lib.Math.max.name Lib.Math.max.code 2 (some .int) ∈ wsL_law := in_wsL_law_r3 _ (List.mem_of_getElem? (i := 1) rfl)
theorem u_50 : Cond.fieldLink RX8 15 "StreamRemuxer$Row" "most" "I" ∈ wsL_law := in_wsL_law_r3 _ (List.mem_of_getElem? (i := 2) rfl)
theorem u_51 : Cond.arrayClass .int ∈ wsL_law := in_wsL_law_r3 _ (List.mem_of_getElem? (i := 3) rfl)
theorem u_52 : Cond.fieldLink RX8 21 "StreamRemuxer$Row" "words" "[I" ∈ wsL_law := in_wsL_law_r3 _ (List.mem_of_getElem? (i := 4) rfl)
theorem u_53 : Cond.instanceMethod yX4_init ∈ wsL_law := in_wsL_law_r3 _ (List.mem_of_getElem? (i := 5) rfl)
theorem u_54 : Cond.code yX4_init cX4_init 1 none ∈ wsL_law := in_wsL_law_r3 _ (List.mem_of_getElem? (i := 6) rfl)
theorem u_55 : Cond.methodLink RX4 3 objectInit ∈ wsL_law := in_wsL_law_r3 _ (List.mem_of_getElem? (i := 7) rfl)
theorem u_56 : Cond.classLink RX4 9 RX8 ∈ wsL_law := in_wsL_law_r3 _ (List.mem_of_getElem? (i := 8) rfl)
theorem u_57 : Cond.fieldLink RX4 14 "StreamRemuxer$PacketList" "bytes" "LStreamRemuxer$Row;" ∈ wsL_law := in_wsL_law_r3 _ (List.mem_of_getElem? (i := 9) rfl)
theorem u_58 : Cond.fieldLink RX4 20 "StreamRemuxer$PacketList" "ends" "[I" ∈ wsL_law := in_wsL_law_r3 _ (List.mem_of_getElem? (i := 10) rfl)
theorem u_59 : Cond.arrayClass .long ∈ wsL_law := in_wsL_law_r3 _ (List.mem_of_getElem? (i := 11) rfl)
theorem u_60 : Cond.fieldLink RX4 24 "StreamRemuxer$PacketList" "times" "[J" ∈ wsL_law := in_wsL_law_r3 _ (List.mem_of_getElem? (i := 12) rfl)
theorem u_61 : Cond.methodLink RX4 11 yX8_init ∈ wsL_law := in_wsL_law_r3 _ (List.mem_of_getElem? (i := 13) rfl)
theorem u_62 : Cond.instanceMethod yX7_init ∈ wsL_law := in_wsL_law_r3 _ (List.mem_of_getElem? (i := 14) rfl)
theorem u_63 : Cond.code yX7_init cX7_init 1 none ∈ wsL_law := in_wsL_law_r3 _ (List.mem_of_getElem? (i := 15) rfl)
theorem u_64 : Cond.methodLink RX7 3 objectInit ∈ wsL_law := in_wsL_law_r3 _ (List.mem_of_getElem? (i := 16) rfl)
theorem u_65 : Cond.fieldLink RX7 11 "StreamRemuxer$PageWriter" "segmentSizes" "[I" ∈ wsL_law := in_wsL_law_r3 _ (List.mem_of_getElem? (i := 17) rfl)
theorem u_66 : Cond.instanceMethod yX6_init ∈ wsL_law := in_wsL_law_r3 _ (List.mem_of_getElem? (i := 18) rfl)
theorem u_67 : Cond.code yX6_init cX6_init 1 none ∈ wsL_law := in_wsL_law_r3 _ (List.mem_of_getElem? (i := 19) rfl)
theorem u_68 : Cond.methodLink RX6 3 objectInit ∈ wsL_law := in_wsL_law_r3 _ (List.mem_of_getElem? (i := 20) rfl)
theorem u_69 : Cond.instanceMethod yX2_init ∈ wsL_law := in_wsL_law_r3 _ (List.mem_of_getElem? (i := 21) rfl)
theorem u_70 : Cond.code yX2_init cX2_init 1 none ∈ wsL_law := in_wsL_law_r3 _ (List.mem_of_getElem? (i := 22) rfl)
theorem u_71 : Cond.methodLink RX2 3 objectInit ∈ wsL_law := in_wsL_law_r3 _ (List.mem_of_getElem? (i := 23) rfl)
theorem u_72 : Cond.classLink RX2 9 RX8 ∈ wsL_law := in_wsL_law_r4 _ (List.mem_of_getElem? (i := 0) rfl)
theorem u_73 : Cond.fieldLink RX2 16 "StreamRemuxer$ElementWriter" "blockHeader" "LStreamRemuxer$Row;" ∈ wsL_law := in_wsL_law_r4 _ (List.mem_of_getElem? (i := 1) rfl)
theorem u_74 : Cond.methodLink RX2 13 yX8_init ∈ wsL_law := in_wsL_law_r4 _ (List.mem_of_getElem? (i := 2) rfl)
theorem u_75 : Cond.methodLink RX9 57 yX1_init ∈ wsL_law := in_wsL_law_r4 _ (List.mem_of_getElem? (i := 3) rfl)
theorem u_76 : Cond.instanceMethod yX1_init ∈ wsL_law := in_wsL_law_r4 _ (List.mem_of_getElem? (i := 4) rfl)
theorem u_77 : Cond.code yX1_init cX1_init 2 none ∈ wsL_law := in_wsL_law_r4 _ (List.mem_of_getElem? (i := 5) rfl)
theorem u_78 : Cond.methodLink RX1 5 objectInit ∈ wsL_law := in_wsL_law_r4 _ (List.mem_of_getElem? (i := 6) rfl)
theorem u_79 : Cond.fieldLink RX1 13 "StreamRemuxer$ElementReader" "lacedSizes" "[I" ∈ wsL_law := in_wsL_law_r4 _ (List.mem_of_getElem? (i := 7) rfl)
theorem u_80 : Cond.classLink RX1 17 RX3 ∈ wsL_law := in_wsL_law_r4 _ (List.mem_of_getElem? (i := 8) rfl)
theorem u_81 : Cond.fieldLink RX1 19 "StreamRemuxer$ElementReader" "levels" "[LStreamRemuxer$Level;" ∈ wsL_law := in_wsL_law_r4 _ (List.mem_of_getElem? (i := 9) rfl)
theorem u_82 : Cond.instantiable RX3 5 ∈ wsL_law := in_wsL_law_r4 _ (List.mem_of_getElem? (i := 10) rfl)
theorem u_83 : Cond.initialized RX3 ∈ wsL_law := in_wsL_law_r4 _ (List.mem_of_getElem? (i := 11) rfl)
theorem u_84 : Cond.instanceMethod yX3_init ∈ wsL_law := in_wsL_law_r4 _ (List.mem_of_getElem? (i := 12) rfl)
theorem u_85 : Cond.code yX3_init cX3_init 1 none ∈ wsL_law := in_wsL_law_r4 _ (List.mem_of_getElem? (i := 13) rfl)
theorem u_86 : Cond.methodLink RX3 1 objectInit ∈ wsL_law := in_wsL_law_r4 _ (List.mem_of_getElem? (i := 14) rfl)
theorem u_87 : Cond.methodLink RL 12 yX10_init ∈ wsL_law := in_wsL_law_r4 _ (List.mem_of_getElem? (i := 15) rfl)
theorem u_88 : Cond.instanceMethod yX10_init ∈ wsL_law := in_wsL_law_r4 _ (List.mem_of_getElem? (i := 16) rfl)
theorem u_89 : Cond.code yX10_init cX10_init 1 none ∈ wsL_law := in_wsL_law_r4 _ (List.mem_of_getElem? (i := 17) rfl)
theorem u_90 : Cond.methodLink RX10 1 objectInit ∈ wsL_law := in_wsL_law_r4 _ (List.mem_of_getElem? (i := 18) rfl)
theorem u_91 : Cond.arrayClass .byte ∈ wsL_law := in_wsL_law_r4 _ (List.mem_of_getElem? (i := 19) rfl)
theorem u_92 : Cond.fieldLink RX10 7 "StreamRemuxerModel" "tape" "[B" ∈ wsL_law := in_wsL_law_r4 _ (List.mem_of_getElem? (i := 20) rfl)
theorem u_93 : Cond.fieldLink RX10 13 "StreamRemuxerModel" "out" "[B" ∈ wsL_law := in_wsL_law_r4 _ (List.mem_of_getElem? (i := 21) rfl)
theorem u_94 : Cond.fieldLink RX10 16 "StreamRemuxerModel" "draft" "[B" ∈ wsL_law := in_wsL_law_r4 _ (List.mem_of_getElem? (i := 22) rfl)
theorem u_95 : Cond.fieldLink RX10 19 "StreamRemuxerModel" "size" "[I" ∈ wsL_law := in_wsL_law_r4 _ (List.mem_of_getElem? (i := 23) rfl)
theorem u_96 : Cond.fieldLink RX10 23 "StreamRemuxerModel" "readSize" "[I" ∈ wsL_law := in_wsL_law_r5 _ (List.mem_of_getElem? (i := 0) rfl)
theorem u_97 : Cond.fieldLink RX10 26 "StreamRemuxerModel" "time" "[J" ∈ wsL_law := in_wsL_law_r5 _ (List.mem_of_getElem? (i := 1) rfl)
theorem u_98 : Cond.fieldLink RX10 30 "StreamRemuxerModel" "readTime" "[J" ∈ wsL_law := in_wsL_law_r5 _ (List.mem_of_getElem? (i := 2) rfl)
theorem u_99 : Cond.fieldLink RX10 33 "StreamRemuxerModel" "bytes" "[B" ∈ wsL_law := in_wsL_law_r5 _ (List.mem_of_getElem? (i := 3) rfl)
theorem u_100 : Cond.fieldLink RX10 36 "StreamRemuxerModel" "readBytes" "[B" ∈ wsL_law := in_wsL_law_r5 _ (List.mem_of_getElem? (i := 4) rfl)
theorem u_101 : Cond.fieldLink RX10 39 "StreamRemuxerModel" "toldAt" "I" ∈ wsL_law := in_wsL_law_r5 _ (List.mem_of_getElem? (i := 5) rfl)
theorem u_102 : Cond.fieldLink RX10 43 "StreamRemuxerModel" "sizes" "[I" ∈ wsL_law := in_wsL_law_r5 _ (List.mem_of_getElem? (i := 6) rfl)
theorem u_103 : Cond.fieldLink RX10 46 "StreamRemuxerModel" "headRow" "[B" ∈ wsL_law := in_wsL_law_r5 _ (List.mem_of_getElem? (i := 7) rfl)
theorem u_104 : Cond.fieldLink RX10 49 "StreamRemuxerModel" "infoRow" "[B" ∈ wsL_law := in_wsL_law_r5 _ (List.mem_of_getElem? (i := 8) rfl)
theorem u_105 : Cond.fieldLink RX10 52 "StreamRemuxerModel" "tracksRow" "[B" ∈ wsL_law := in_wsL_law_r5 _ (List.mem_of_getElem? (i := 9) rfl)
theorem u_106 : Cond.fieldLink RX10 55 "StreamRemuxerModel" "codecRow" "[B" ∈ wsL_law := in_wsL_law_r5 _ (List.mem_of_getElem? (i := 10) rfl)
theorem u_107 : Cond.methodLink RL 13 yX9_feed ∈ wsL_law := in_wsL_law_r5 _ (List.mem_of_getElem? (i := 11) rfl)
theorem u_108 : Cond.instanceMethod yX9_feed ∈ wsL_law := in_wsL_law_r5 _ (List.mem_of_getElem? (i := 12) rfl)
theorem u_109 : Cond.selects RX9 yX9_feed yX9_feed ∈ wsL_law := in_wsL_law_r5 _ (List.mem_of_getElem? (i := 13) rfl)
theorem u_110 : Cond.code yX9_feed cX9_feed 6 (some .int) ∈ wsL_law := in_wsL_law_r5 _ (List.mem_of_getElem? (i := 14) rfl)
theorem u_111 : Cond.fieldLink RX9 69 "StreamRemuxer$Row" "length" "I" ∈ wsL_law := in_wsL_law_r5 _ (List.mem_of_getElem? (i := 15) rfl)
theorem u_112 : Cond.methodLink RX9 72 yX8_addHighFirst ∈ wsL_law := in_wsL_law_r5 _ (List.mem_of_getElem? (i := 16) rfl)
theorem u_113 : Cond.instanceMethod yX8_addHighFirst ∈ wsL_law := in_wsL_law_r5 _ (List.mem_of_getElem? (i := 17) rfl)
theorem u_114 : Cond.selects RX8 yX8_addHighFirst yX8_addHighFirst ∈ wsL_law := in_wsL_law_r5 _ (List.mem_of_getElem? (i := 18) rfl)
theorem u_115 : Cond.code yX8_addHighFirst cX8_addHighFirst 5 none ∈ wsL_law := in_wsL_law_r5 _ (List.mem_of_getElem? (i := 19) rfl)
theorem u_116 : Cond.methodLink RX8 36 yX8_add ∈ wsL_law := in_wsL_law_r5 _ (List.mem_of_getElem? (i := 20) rfl)
theorem u_117 : Cond.instanceMethod yX8_add ∈ wsL_law := in_wsL_law_r5 _ (List.mem_of_getElem? (i := 21) rfl)
theorem u_118 : Cond.selects RX8 yX8_add yX8_add ∈ wsL_law := in_wsL_law_r5 _ (List.mem_of_getElem? (i := 22) rfl)
theorem u_119 : Cond.code yX8_add cX8_add 2 none ∈ wsL_law := in_wsL_law_r5 _ (List.mem_of_getElem? (i := 23) rfl)
theorem u_120 : Cond.fieldLink RX8 25 "StreamRemuxer$Row" "length" "I" ∈ wsL_law := in_wsL_law_r6 _ (List.mem_of_getElem? (i := 0) rfl)
theorem u_121 : Cond.fieldLink RX8 28 "StreamRemuxer$Row" "overfull" "Z" ∈ wsL_law := in_wsL_law_r6 _ (List.mem_of_getElem? (i := 1) rfl)
theorem u_122 : Cond.methodLink RX8 32 yX8_change ∈ wsL_law := in_wsL_law_r6 _ (List.mem_of_getElem? (i := 2) rfl)
theorem u_123 : Cond.instanceMethod yX8_change ∈ wsL_law := in_wsL_law_r6 _ (List.mem_of_getElem? (i := 3) rfl)
theorem u_124 : Cond.selects RX8 yX8_change yX8_change ∈ wsL_law := in_wsL_law_r6 _ (List.mem_of_getElem? (i := 4) rfl)
theorem u_125 : Cond.code yX8_change cX8_change 4 (some .boolean) ∈ wsL_law := in_wsL_law_r6 _ (List.mem_of_getElem? (i := 5) rfl)
theorem u_126 : Cond.methodLink RL 17 yX10_feed ∈ wsL_law := in_wsL_law_r6 _ (List.mem_of_getElem? (i := 6) rfl)
theorem u_127 : Cond.instanceMethod yX10_feed ∈ wsL_law := in_wsL_law_r6 _ (List.mem_of_getElem? (i := 7) rfl)
theorem u_128 : Cond.selects RX10 yX10_feed yX10_feed ∈ wsL_law := in_wsL_law_r6 _ (List.mem_of_getElem? (i := 8) rfl)
theorem u_129 : Cond.code yX10_feed cX10_feed 6 (some .int) ∈ wsL_law := in_wsL_law_r6 _ (List.mem_of_getElem? (i := 9) rfl)
theorem u_130 : Cond.fieldLink RX10 58 "StreamRemuxerModel" "taped" "I" ∈ wsL_law := in_wsL_law_r6 _ (List.mem_of_getElem? (i := 10) rfl)
theorem u_131 : Cond.methodLink RX10 61 yX10_four ∈ wsL_law := in_wsL_law_r6 _ (List.mem_of_getElem? (i := 11) rfl)
theorem u_132 : Cond.instanceMethod yX10_four ∈ wsL_law := in_wsL_law_r6 _ (List.mem_of_getElem? (i := 12) rfl)
theorem u_133 : Cond.selects RX10 yX10_four yX10_four ∈ wsL_law := in_wsL_law_r6 _ (List.mem_of_getElem? (i := 13) rfl)
theorem u_134 : Cond.code yX10_four cX10_four 3 none ∈ wsL_law := in_wsL_law_r6 _ (List.mem_of_getElem? (i := 14) rfl)
theorem u_135 : Cond.methodLink RL 20 yX9_packet ∈ wsL_law := in_wsL_law_r6 _ (List.mem_of_getElem? (i := 15) rfl)
theorem u_136 : Cond.instanceMethod yX9_packet ∈ wsL_law := in_wsL_law_r6 _ (List.mem_of_getElem? (i := 16) rfl)
theorem u_137 : Cond.selects RX9 yX9_packet yX9_packet ∈ wsL_law := in_wsL_law_r6 _ (List.mem_of_getElem? (i := 17) rfl)
theorem u_138 : Cond.code yX9_packet cX9_packet 5 (some .int) ∈ wsL_law := in_wsL_law_r6 _ (List.mem_of_getElem? (i := 18) rfl)
theorem u_139 : Cond.constantLong RX9 80 (-1) ∈ wsL_law := in_wsL_law_r6 _ (List.mem_of_getElem? (i := 19) rfl)
theorem u_140 : Cond.constantLong RX9 82 (1099511627775) ∈ wsL_law := in_wsL_law_r6 _ (List.mem_of_getElem? (i := 20) rfl)
theorem u_141 : Cond.fieldLink RX9 88 "StreamRemuxer$PacketList" "bytes" "LStreamRemuxer$Row;" ∈ wsL_law := in_wsL_law_r6 _ (List.mem_of_getElem? (i := 21) rfl)
theorem u_142 : Cond.fieldLink RX9 102 "StreamRemuxer$PacketList" "packets" "I" ∈ wsL_law := in_wsL_law_r6 _ (List.mem_of_getElem? (i := 22) rfl)
theorem u_143 : Cond.methodLink RX9 76 yX9_isOnTape ∈ wsL_law := in_wsL_law_r6 _ (List.mem_of_getElem? (i := 23) rfl)
theorem u_144 : Cond.instanceMethod yX9_isOnTape ∈ wsL_law := in_wsL_law_r7 _ (List.mem_of_getElem? (i := 0) rfl)
theorem u_145 : Cond.selects RX9 yX9_isOnTape yX9_isOnTape ∈ wsL_law := in_wsL_law_r7 _ (List.mem_of_getElem? (i := 1) rfl)
theorem u_146 : Cond.code yX9_isOnTape cX9_isOnTape 2 (some .boolean) ∈ wsL_law := in_wsL_law_r7 _ (List.mem_of_getElem? (i := 2) rfl)
theorem u_147 : Cond.methodLink RX9 84 yX4_hasRoom ∈ wsL_law := in_wsL_law_r7 _ (List.mem_of_getElem? (i := 3) rfl)
theorem u_148 : Cond.instanceMethod yX4_hasRoom ∈ wsL_law := in_wsL_law_r7 _ (List.mem_of_getElem? (i := 4) rfl)
theorem u_149 : Cond.selects RX4 yX4_hasRoom yX4_hasRoom ∈ wsL_law := in_wsL_law_r7 _ (List.mem_of_getElem? (i := 5) rfl)
theorem u_150 : Cond.code yX4_hasRoom cX4_hasRoom 3 (some .boolean) ∈ wsL_law := in_wsL_law_r7 _ (List.mem_of_getElem? (i := 6) rfl)
theorem u_151 : Cond.fieldLink RX4 28 "StreamRemuxer$PacketList" "packets" "I" ∈ wsL_law := in_wsL_law_r7 _ (List.mem_of_getElem? (i := 7) rfl)
theorem u_152 : Cond.fieldLink RX4 61 "StreamRemuxer$Row" "length" "I" ∈ wsL_law := in_wsL_law_r7 _ (List.mem_of_getElem? (i := 8) rfl)
theorem u_153 : Cond.methodLink RX9 91 yX8_addPart ∈ wsL_law := in_wsL_law_r7 _ (List.mem_of_getElem? (i := 9) rfl)
theorem u_154 : Cond.instanceMethod yX8_addPart ∈ wsL_law := in_wsL_law_r7 _ (List.mem_of_getElem? (i := 10) rfl)
theorem u_155 : Cond.selects RX8 yX8_addPart yX8_addPart ∈ wsL_law := in_wsL_law_r7 _ (List.mem_of_getElem? (i := 11) rfl)
theorem u_156 : Cond.code yX8_addPart cX8_addPart 5 none ∈ wsL_law := in_wsL_law_r7 _ (List.mem_of_getElem? (i := 12) rfl)
theorem u_157 : Cond.methodLink RX8 40 yX8_at ∈ wsL_law := in_wsL_law_r7 _ (List.mem_of_getElem? (i := 13) rfl)
theorem u_158 : Cond.instanceMethod yX8_at ∈ wsL_law := in_wsL_law_r7 _ (List.mem_of_getElem? (i := 14) rfl)
theorem u_159 : Cond.selects RX8 yX8_at yX8_at ∈ wsL_law := in_wsL_law_r7 _ (List.mem_of_getElem? (i := 15) rfl)
theorem u_160 : Cond.code yX8_at cX8_at 2 (some .int) ∈ wsL_law := in_wsL_law_r7 _ (List.mem_of_getElem? (i := 16) rfl)
theorem u_161 : Cond.methodLink RX9 95 yX4_endPacket ∈ wsL_law := in_wsL_law_r7 _ (List.mem_of_getElem? (i := 17) rfl)
theorem u_162 : Cond.instanceMethod yX4_endPacket ∈ wsL_law := in_wsL_law_r7 _ (List.mem_of_getElem? (i := 18) rfl)
theorem u_163 : Cond.selects RX4 yX4_endPacket yX4_endPacket ∈ wsL_law := in_wsL_law_r7 _ (List.mem_of_getElem? (i := 19) rfl)
theorem u_164 : Cond.code yX4_endPacket cX4_endPacket 3 none ∈ wsL_law := in_wsL_law_r7 _ (List.mem_of_getElem? (i := 20) rfl)
theorem u_165 : Cond.methodLink RX9 99 yX8_empty ∈ wsL_law := in_wsL_law_r7 _ (List.mem_of_getElem? (i := 21) rfl)
theorem u_166 : Cond.instanceMethod yX8_empty ∈ wsL_law := in_wsL_law_r7 _ (List.mem_of_getElem? (i := 22) rfl)
theorem u_167 : Cond.selects RX8 yX8_empty yX8_empty ∈ wsL_law := in_wsL_law_r7 _ (List.mem_of_getElem? (i := 23) rfl)
theorem u_168 : Cond.code yX8_empty cX8_empty 1 none ∈ wsL_law := in_wsL_law_r8 _ (List.mem_of_getElem? (i := 0) rfl)
theorem u_169 : Cond.methodLink RL 24 yX10_packet ∈ wsL_law := in_wsL_law_r8 _ (List.mem_of_getElem? (i := 1) rfl)
theorem u_170 : Cond.instanceMethod yX10_packet ∈ wsL_law := in_wsL_law_r8 _ (List.mem_of_getElem? (i := 2) rfl)
theorem u_171 : Cond.selects RX10 yX10_packet yX10_packet ∈ wsL_law := in_wsL_law_r8 _ (List.mem_of_getElem? (i := 3) rfl)
theorem u_172 : Cond.code yX10_packet cX10_packet 5 (some .int) ∈ wsL_law := in_wsL_law_r8 _ (List.mem_of_getElem? (i := 4) rfl)
theorem u_173 : Cond.constantLong RX10 65 (-1) ∈ wsL_law := in_wsL_law_r8 _ (List.mem_of_getElem? (i := 5) rfl)
theorem u_174 : Cond.constantLong RX10 67 (1099511627775) ∈ wsL_law := in_wsL_law_r8 _ (List.mem_of_getElem? (i := 6) rfl)
theorem u_175 : Cond.fieldLink RX10 69 "StreamRemuxerModel" "many" "I" ∈ wsL_law := in_wsL_law_r8 _ (List.mem_of_getElem? (i := 7) rfl)
theorem u_176 : Cond.fieldLink RX10 72 "StreamRemuxerModel" "total" "I" ∈ wsL_law := in_wsL_law_r8 _ (List.mem_of_getElem? (i := 8) rfl)
theorem u_177 : Cond.methodLink RL 25 yX9_clear ∈ wsL_law := in_wsL_law_r8 _ (List.mem_of_getElem? (i := 9) rfl)
theorem u_178 : Cond.instanceMethod yX9_clear ∈ wsL_law := in_wsL_law_r8 _ (List.mem_of_getElem? (i := 10) rfl)
theorem u_179 : Cond.selects RX9 yX9_clear yX9_clear ∈ wsL_law := in_wsL_law_r8 _ (List.mem_of_getElem? (i := 11) rfl)
theorem u_180 : Cond.code yX9_clear cX9_clear 2 (some .int) ∈ wsL_law := in_wsL_law_r8 _ (List.mem_of_getElem? (i := 12) rfl)
theorem u_181 : Cond.methodLink RX9 105 yX4_empty ∈ wsL_law := in_wsL_law_r8 _ (List.mem_of_getElem? (i := 13) rfl)
theorem u_182 : Cond.instanceMethod yX4_empty ∈ wsL_law := in_wsL_law_r8 _ (List.mem_of_getElem? (i := 14) rfl)
theorem u_183 : Cond.selects RX4 yX4_empty yX4_empty ∈ wsL_law := in_wsL_law_r8 _ (List.mem_of_getElem? (i := 15) rfl)
theorem u_184 : Cond.code yX4_empty cX4_empty 1 none ∈ wsL_law := in_wsL_law_r8 _ (List.mem_of_getElem? (i := 16) rfl)
theorem u_185 : Cond.methodLink RX4 32 yX8_empty ∈ wsL_law := in_wsL_law_r8 _ (List.mem_of_getElem? (i := 17) rfl)
theorem u_186 : Cond.methodLink RL 29 yX10_clear ∈ wsL_law := in_wsL_law_r8 _ (List.mem_of_getElem? (i := 18) rfl)
theorem u_187 : Cond.instanceMethod yX10_clear ∈ wsL_law := in_wsL_law_r8 _ (List.mem_of_getElem? (i := 19) rfl)
theorem u_188 : Cond.selects RX10 yX10_clear yX10_clear ∈ wsL_law := in_wsL_law_r8 _ (List.mem_of_getElem? (i := 20) rfl)
theorem u_189 : Cond.code yX10_clear cX10_clear 2 (some .int) ∈ wsL_law := in_wsL_law_r8 _ (List.mem_of_getElem? (i := 21) rfl)
theorem u_190 : Cond.methodLink RL 30 yX9_pages ∈ wsL_law := in_wsL_law_r8 _ (List.mem_of_getElem? (i := 22) rfl)
theorem u_191 : Cond.instanceMethod yX9_pages ∈ wsL_law := in_wsL_law_r8 _ (List.mem_of_getElem? (i := 23) rfl)
theorem u_192 : Cond.selects RX9 yX9_pages yX9_pages ∈ wsL_law := in_wsL_law_r9 _ (List.mem_of_getElem? (i := 0) rfl)
theorem u_193 : Cond.code yX9_pages cX9_pages 4 (some .int) ∈ wsL_law := in_wsL_law_r9 _ (List.mem_of_getElem? (i := 1) rfl)
theorem u_194 : Cond.methodLink RX9 108 yX4_isInOrderOfTime ∈ wsL_law := in_wsL_law_r9 _ (List.mem_of_getElem? (i := 2) rfl)
theorem u_195 : Cond.instanceMethod yX4_isInOrderOfTime ∈ wsL_law := in_wsL_law_r9 _ (List.mem_of_getElem? (i := 3) rfl)
theorem u_196 : Cond.selects RX4 yX4_isInOrderOfTime yX4_isInOrderOfTime ∈ wsL_law := in_wsL_law_r9 _ (List.mem_of_getElem? (i := 4) rfl)
theorem u_197 : Cond.code yX4_isInOrderOfTime cX4_isInOrderOfTime 4 (some .boolean) ∈ wsL_law := in_wsL_law_r9 _ (List.mem_of_getElem? (i := 5) rfl)
theorem u_198 : Cond.constantLong RX4 49 (-1) ∈ wsL_law := in_wsL_law_r9 _ (List.mem_of_getElem? (i := 6) rfl)
theorem u_199 : Cond.methodLink RX4 55 Lib.MathLoose.max_long.x ∈ wsL_law := in_wsL_law_r9 _ (List.mem_of_getElem? (i := 7) rfl)
theorem u_200 : Cond.static Lib.MathLoose.max_long.x ∈ wsL_law := in_wsL_law_r9 _ (List.mem_of_getElem? (i := 8) rfl)
theorem u_201 : Cond.code Lib.MathLoose.max_long.x Lib.MathLoose.max_long.code 4 (some .long) ∈ wsL_law := in_wsL_law_r9 _ (List.mem_of_getElem? (i := 9) rfl)
theorem u_202 : Cond.methodLink RX4 51 yX4_timeOf ∈ wsL_law := in_wsL_law_r9 _ (List.mem_of_getElem? (i := 10) rfl)
theorem u_203 : Cond.instanceMethod yX4_timeOf ∈ wsL_law := in_wsL_law_r9 _ (List.mem_of_getElem? (i := 11) rfl)
theorem u_204 : Cond.selects RX4 yX4_timeOf yX4_timeOf ∈ wsL_law := in_wsL_law_r9 _ (List.mem_of_getElem? (i := 12) rfl)
theorem u_205 : Cond.code yX4_timeOf cX4_timeOf 2 (some .long) ∈ wsL_law := in_wsL_law_r9 _ (List.mem_of_getElem? (i := 13) rfl)
theorem u_206 : Cond.methodLink RX4 35 yX4_holds ∈ wsL_law := in_wsL_law_r9 _ (List.mem_of_getElem? (i := 14) rfl)
theorem u_207 : Cond.instanceMethod yX4_holds ∈ wsL_law := in_wsL_law_r9 _ (List.mem_of_getElem? (i := 15) rfl)
theorem u_208 : Cond.selects RX4 yX4_holds yX4_holds ∈ wsL_law := in_wsL_law_r9 _ (List.mem_of_getElem? (i := 16) rfl)
theorem u_209 : Cond.code yX4_holds cX4_holds 2 (some .boolean) ∈ wsL_law := in_wsL_law_r9 _ (List.mem_of_getElem? (i := 17) rfl)
theorem u_210 : Cond.methodLink RX9 112 yX7_write ∈ wsL_law := in_wsL_law_r9 _ (List.mem_of_getElem? (i := 18) rfl)
theorem u_211 : Cond.instanceMethod yX7_write ∈ wsL_law := in_wsL_law_r9 _ (List.mem_of_getElem? (i := 19) rfl)
theorem u_212 : Cond.selects RX7 yX7_write yX7_write ∈ wsL_law := in_wsL_law_r9 _ (List.mem_of_getElem? (i := 20) rfl)
theorem u_213 : Cond.code yX7_write cX7_write 9 none ∈ wsL_law := in_wsL_law_r9 _ (List.mem_of_getElem? (i := 21) rfl)
theorem u_214 : Cond.fieldLink RX7 17 "StreamRemuxer$PageWriter" "source" "LStreamRemuxer$PacketList;" ∈ wsL_law := in_wsL_law_r9 _ (List.mem_of_getElem? (i := 22) rfl)
theorem u_215 : Cond.fieldLink RX7 21 "StreamRemuxer$PageWriter" "target" "LStreamRemuxer$Row;" ∈ wsL_law := in_wsL_law_r9 _ (List.mem_of_getElem? (i := 23) rfl)
theorem u_216 : Cond.fieldLink RX7 25 "StreamRemuxer$PageWriter" "serial" "I" ∈ wsL_law := in_wsL_law_r10 _ (List.mem_of_getElem? (i := 0) rfl)
theorem u_217 : Cond.fieldLink RX7 29 "StreamRemuxer$PageWriter" "number" "I" ∈ wsL_law := in_wsL_law_r10 _ (List.mem_of_getElem? (i := 1) rfl)
theorem u_218 : Cond.fieldLink RX7 32 "StreamRemuxer$PageWriter" "written" "I" ∈ wsL_law := in_wsL_law_r10 _ (List.mem_of_getElem? (i := 2) rfl)
theorem u_219 : Cond.fieldLink RX7 35 "StreamRemuxer$PageWriter" "goesOn" "Z" ∈ wsL_law := in_wsL_law_r10 _ (List.mem_of_getElem? (i := 3) rfl)
theorem u_220 : Cond.fieldLink RX7 42 "StreamRemuxer$PacketList" "packets" "I" ∈ wsL_law := in_wsL_law_r10 _ (List.mem_of_getElem? (i := 4) rfl)
theorem u_221 : Cond.fieldLink RX7 55 "StreamRemuxer$PageWriter" "segments" "I" ∈ wsL_law := in_wsL_law_r10 _ (List.mem_of_getElem? (i := 5) rfl)
theorem u_222 : Cond.fieldLink RX7 62 "StreamRemuxer$PageWriter" "packetsEnded" "I" ∈ wsL_law := in_wsL_law_r10 _ (List.mem_of_getElem? (i := 6) rfl)
theorem u_223 : Cond.fieldLink RX7 65 "StreamRemuxer$PageWriter" "lastEnded" "I" ∈ wsL_law := in_wsL_law_r10 _ (List.mem_of_getElem? (i := 7) rfl)
theorem u_224 : Cond.methodLink RX7 39 yX7_beginPage ∈ wsL_law := in_wsL_law_r10 _ (List.mem_of_getElem? (i := 8) rfl)
theorem u_225 : Cond.instanceMethod yX7_beginPage ∈ wsL_law := in_wsL_law_r10 _ (List.mem_of_getElem? (i := 9) rfl)
theorem u_226 : Cond.selects RX7 yX7_beginPage yX7_beginPage ∈ wsL_law := in_wsL_law_r10 _ (List.mem_of_getElem? (i := 10) rfl)
theorem u_227 : Cond.code yX7_beginPage cX7_beginPage 1 none ∈ wsL_law := in_wsL_law_r10 _ (List.mem_of_getElem? (i := 11) rfl)
theorem u_228 : Cond.methodLink RX7 47 yX4_bytesOf ∈ wsL_law := in_wsL_law_r10 _ (List.mem_of_getElem? (i := 12) rfl)
theorem u_229 : Cond.instanceMethod yX4_bytesOf ∈ wsL_law := in_wsL_law_r10 _ (List.mem_of_getElem? (i := 13) rfl)
theorem u_230 : Cond.selects RX4 yX4_bytesOf yX4_bytesOf ∈ wsL_law := in_wsL_law_r10 _ (List.mem_of_getElem? (i := 14) rfl)
theorem u_231 : Cond.code yX4_bytesOf cX4_bytesOf 2 (some .int) ∈ wsL_law := in_wsL_law_r10 _ (List.mem_of_getElem? (i := 15) rfl)
theorem u_232 : Cond.methodLink RX4 39 yX4_beginOf ∈ wsL_law := in_wsL_law_r10 _ (List.mem_of_getElem? (i := 16) rfl)
theorem u_233 : Cond.instanceMethod yX4_beginOf ∈ wsL_law := in_wsL_law_r10 _ (List.mem_of_getElem? (i := 17) rfl)
theorem u_234 : Cond.selects RX4 yX4_beginOf yX4_beginOf ∈ wsL_law := in_wsL_law_r10 _ (List.mem_of_getElem? (i := 18) rfl)
theorem u_235 : Cond.code yX4_beginOf cX4_beginOf 2 (some .int) ∈ wsL_law := in_wsL_law_r10 _ (List.mem_of_getElem? (i := 19) rfl)
theorem u_236 : Cond.methodLink RX7 51 yX7_addSegment ∈ wsL_law := in_wsL_law_r10 _ (List.mem_of_getElem? (i := 20) rfl)
theorem u_237 : Cond.instanceMethod yX7_addSegment ∈ wsL_law := in_wsL_law_r10 _ (List.mem_of_getElem? (i := 21) rfl)
theorem u_238 : Cond.selects RX7 yX7_addSegment yX7_addSegment ∈ wsL_law := in_wsL_law_r10 _ (List.mem_of_getElem? (i := 22) rfl)
theorem u_239 : Cond.code yX7_addSegment cX7_addSegment 2 none ∈ wsL_law := in_wsL_law_r10 _ (List.mem_of_getElem? (i := 23) rfl)
theorem u_240 : Cond.methodLink RX7 58 yX7_endPage ∈ wsL_law := in_wsL_law_r11 _ (List.mem_of_getElem? (i := 0) rfl)
theorem u_241 : Cond.instanceMethod yX7_endPage ∈ wsL_law := in_wsL_law_r11 _ (List.mem_of_getElem? (i := 1) rfl)
theorem u_242 : Cond.selects RX7 yX7_endPage yX7_endPage ∈ wsL_law := in_wsL_law_r11 _ (List.mem_of_getElem? (i := 2) rfl)
theorem u_243 : Cond.code yX7_endPage cX7_endPage 6 none ∈ wsL_law := in_wsL_law_r11 _ (List.mem_of_getElem? (i := 3) rfl)
theorem u_244 : Cond.fieldLink RX7 68 "StreamRemuxer$Row" "length" "I" ∈ wsL_law := in_wsL_law_r11 _ (List.mem_of_getElem? (i := 4) rfl)
theorem u_245 : Cond.fieldLink RX7 80 "StreamRemuxer$PacketList" "bytes" "LStreamRemuxer$Row;" ∈ wsL_law := in_wsL_law_r11 _ (List.mem_of_getElem? (i := 5) rfl)
theorem u_246 : Cond.methodLink RX7 73 yX7_putHeader ∈ wsL_law := in_wsL_law_r11 _ (List.mem_of_getElem? (i := 6) rfl)
theorem u_247 : Cond.instanceMethod yX7_putHeader ∈ wsL_law := in_wsL_law_r11 _ (List.mem_of_getElem? (i := 7) rfl)
theorem u_248 : Cond.selects RX7 yX7_putHeader yX7_putHeader ∈ wsL_law := in_wsL_law_r11 _ (List.mem_of_getElem? (i := 8) rfl)
theorem u_249 : Cond.code yX7_putHeader cX7_putHeader 3 none ∈ wsL_law := in_wsL_law_r11 _ (List.mem_of_getElem? (i := 9) rfl)
theorem u_250 : Cond.constantLong RX7 90 (1332176723) ∈ wsL_law := in_wsL_law_r11 _ (List.mem_of_getElem? (i := 10) rfl)
theorem u_251 : Cond.constantLong RX7 96 (-1) ∈ wsL_law := in_wsL_law_r11 _ (List.mem_of_getElem? (i := 11) rfl)
theorem u_252 : Cond.methodLink RX7 92 yX8_addHighFirst ∈ wsL_law := in_wsL_law_r11 _ (List.mem_of_getElem? (i := 12) rfl)
theorem u_253 : Cond.methodLink RX7 77 yX8_add ∈ wsL_law := in_wsL_law_r11 _ (List.mem_of_getElem? (i := 13) rfl)
theorem u_254 : Cond.methodLink RX7 98 yX4_timeToWrite ∈ wsL_law := in_wsL_law_r11 _ (List.mem_of_getElem? (i := 14) rfl)
theorem u_255 : Cond.instanceMethod yX4_timeToWrite ∈ wsL_law := in_wsL_law_r11 _ (List.mem_of_getElem? (i := 15) rfl)
theorem u_256 : Cond.selects RX4 yX4_timeToWrite yX4_timeToWrite ∈ wsL_law := in_wsL_law_r11 _ (List.mem_of_getElem? (i := 16) rfl)
theorem u_257 : Cond.code yX4_timeToWrite cX4_timeToWrite 3 (some .long) ∈ wsL_law := in_wsL_law_r11 _ (List.mem_of_getElem? (i := 17) rfl)
theorem u_258 : Cond.methodLink RX7 102 yX8_addLowFirst ∈ wsL_law := in_wsL_law_r11 _ (List.mem_of_getElem? (i := 18) rfl)
theorem u_259 : Cond.instanceMethod yX8_addLowFirst ∈ wsL_law := in_wsL_law_r11 _ (List.mem_of_getElem? (i := 19) rfl)
theorem u_260 : Cond.selects RX8 yX8_addLowFirst yX8_addLowFirst ∈ wsL_law := in_wsL_law_r11 _ (List.mem_of_getElem? (i := 20) rfl)
theorem u_261 : Cond.code yX8_addLowFirst cX8_addLowFirst 5 none ∈ wsL_law := in_wsL_law_r11 _ (List.mem_of_getElem? (i := 21) rfl)
theorem u_262 : Cond.methodLink RX7 83 yX8_addPart ∈ wsL_law := in_wsL_law_r11 _ (List.mem_of_getElem? (i := 22) rfl)
theorem u_263 : Cond.methodLink RX7 87 yX5_makeSumRight ∈ wsL_law := in_wsL_law_r11 _ (List.mem_of_getElem? (i := 23) rfl)
theorem u_264 : Cond.static yX5_makeSumRight ∈ wsL_law := in_wsL_law_r12 _ (List.mem_of_getElem? (i := 0) rfl)
theorem u_265 : Cond.initialized RX5 ∈ wsL_law := in_wsL_law_r12 _ (List.mem_of_getElem? (i := 1) rfl)
theorem u_266 : Cond.code yX5_makeSumRight cX5_makeSumRight 5 none ∈ wsL_law := in_wsL_law_r12 _ (List.mem_of_getElem? (i := 2) rfl)
theorem u_267 : Cond.methodLink RX5 26 yX5_sumOf ∈ wsL_law := in_wsL_law_r12 _ (List.mem_of_getElem? (i := 3) rfl)
theorem u_268 : Cond.static yX5_sumOf ∈ wsL_law := in_wsL_law_r12 _ (List.mem_of_getElem? (i := 4) rfl)
theorem u_269 : Cond.code yX5_sumOf cX5_sumOf 7 (some .int) ∈ wsL_law := in_wsL_law_r12 _ (List.mem_of_getElem? (i := 5) rfl)
theorem u_270 : Cond.fieldLink RX5 22 "StreamRemuxer$PageForm" "FOUR_SHIFTS" "[I" ∈ wsL_law := in_wsL_law_r12 _ (List.mem_of_getElem? (i := 6) rfl)
theorem u_271 : Cond.methodLink RX5 18 yX8_at ∈ wsL_law := in_wsL_law_r12 _ (List.mem_of_getElem? (i := 7) rfl)
theorem u_272 : Cond.methodLink RX5 30 yX8_change ∈ wsL_law := in_wsL_law_r12 _ (List.mem_of_getElem? (i := 8) rfl)
theorem u_273 : Cond.methodLink RX9 116 yX9_takeSpareRow ∈ wsL_law := in_wsL_law_r12 _ (List.mem_of_getElem? (i := 9) rfl)
theorem u_274 : Cond.instanceMethod yX9_takeSpareRow ∈ wsL_law := in_wsL_law_r12 _ (List.mem_of_getElem? (i := 10) rfl)
theorem u_275 : Cond.selects RX9 yX9_takeSpareRow yX9_takeSpareRow ∈ wsL_law := in_wsL_law_r12 _ (List.mem_of_getElem? (i := 11) rfl)
theorem u_276 : Cond.code yX9_takeSpareRow cX9_takeSpareRow 2 (some .int) ∈ wsL_law := in_wsL_law_r12 _ (List.mem_of_getElem? (i := 12) rfl)
theorem u_277 : Cond.fieldLink RX9 188 "StreamRemuxer$Row" "overfull" "Z" ∈ wsL_law := in_wsL_law_r12 _ (List.mem_of_getElem? (i := 13) rfl)
theorem u_278 : Cond.methodLink RL 34 yX10_pages ∈ wsL_law := in_wsL_law_r12 _ (List.mem_of_getElem? (i := 14) rfl)
theorem u_279 : Cond.instanceMethod yX10_pages ∈ wsL_law := in_wsL_law_r12 _ (List.mem_of_getElem? (i := 15) rfl)
theorem u_280 : Cond.selects RX10 yX10_pages yX10_pages ∈ wsL_law := in_wsL_law_r12 _ (List.mem_of_getElem? (i := 16) rfl)
theorem u_281 : Cond.code yX10_pages cX10_pages 20 (some .int) ∈ wsL_law := in_wsL_law_r12 _ (List.mem_of_getElem? (i := 17) rfl)
theorem u_282 : Cond.fieldLink RX10 81 "StreamRemuxerModel" "drafted" "I" ∈ wsL_law := in_wsL_law_r12 _ (List.mem_of_getElem? (i := 18) rfl)
theorem u_283 : Cond.fieldLink RX10 84 "StreamRemuxerModel" "full" "Z" ∈ wsL_law := in_wsL_law_r12 _ (List.mem_of_getElem? (i := 19) rfl)
theorem u_284 : Cond.methodLink RX10 88 yX10_put ∈ wsL_law := in_wsL_law_r12 _ (List.mem_of_getElem? (i := 20) rfl)
theorem u_285 : Cond.instanceMethod yX10_put ∈ wsL_law := in_wsL_law_r12 _ (List.mem_of_getElem? (i := 21) rfl)
theorem u_286 : Cond.selects RX10 yX10_put yX10_put ∈ wsL_law := in_wsL_law_r12 _ (List.mem_of_getElem? (i := 22) rfl)
theorem u_287 : Cond.code yX10_put cX10_put 2 none ∈ wsL_law := in_wsL_law_r12 _ (List.mem_of_getElem? (i := 23) rfl)
theorem u_288 : Cond.methodLink RX10 99 yX10_timeOf ∈ wsL_law := in_wsL_law_r13 _ (List.mem_of_getElem? (i := 0) rfl)
theorem u_289 : Cond.instanceMethod yX10_timeOf ∈ wsL_law := in_wsL_law_r13 _ (List.mem_of_getElem? (i := 1) rfl)
theorem u_290 : Cond.selects RX10 yX10_timeOf yX10_timeOf ∈ wsL_law := in_wsL_law_r13 _ (List.mem_of_getElem? (i := 2) rfl)
theorem u_291 : Cond.code yX10_timeOf cX10_timeOf 3 (some .long) ∈ wsL_law := in_wsL_law_r13 _ (List.mem_of_getElem? (i := 3) rfl)
theorem u_292 : Cond.methodLink RX10 103 yX10_putLow ∈ wsL_law := in_wsL_law_r13 _ (List.mem_of_getElem? (i := 4) rfl)
theorem u_293 : Cond.instanceMethod yX10_putLow ∈ wsL_law := in_wsL_law_r13 _ (List.mem_of_getElem? (i := 5) rfl)
theorem u_294 : Cond.selects RX10 yX10_putLow yX10_putLow ∈ wsL_law := in_wsL_law_r13 _ (List.mem_of_getElem? (i := 6) rfl)
theorem u_295 : Cond.code yX10_putLow cX10_putLow 5 none ∈ wsL_law := in_wsL_law_r13 _ (List.mem_of_getElem? (i := 7) rfl)
theorem u_296 : Cond.methodLink RX10 107 yX10_segmentsFrom ∈ wsL_law := in_wsL_law_r13 _ (List.mem_of_getElem? (i := 8) rfl)
theorem u_297 : Cond.instanceMethod yX10_segmentsFrom ∈ wsL_law := in_wsL_law_r13 _ (List.mem_of_getElem? (i := 9) rfl)
theorem u_298 : Cond.selects RX10 yX10_segmentsFrom yX10_segmentsFrom ∈ wsL_law := in_wsL_law_r13 _ (List.mem_of_getElem? (i := 10) rfl)
theorem u_299 : Cond.code yX10_segmentsFrom cX10_segmentsFrom 8 none ∈ wsL_law := in_wsL_law_r13 _ (List.mem_of_getElem? (i := 11) rfl)
theorem u_300 : Cond.methodLink RX10 111 yX10_putSum ∈ wsL_law := in_wsL_law_r13 _ (List.mem_of_getElem? (i := 12) rfl)
theorem u_301 : Cond.static yX10_putSum ∈ wsL_law := in_wsL_law_r13 _ (List.mem_of_getElem? (i := 13) rfl)
theorem u_302 : Cond.code yX10_putSum cX10_putSum 5 none ∈ wsL_law := in_wsL_law_r13 _ (List.mem_of_getElem? (i := 14) rfl)
theorem u_303 : Cond.methodLink RX10 95 yX10_sumOf ∈ wsL_law := in_wsL_law_r13 _ (List.mem_of_getElem? (i := 15) rfl)
theorem u_304 : Cond.static yX10_sumOf ∈ wsL_law := in_wsL_law_r13 _ (List.mem_of_getElem? (i := 16) rfl)
theorem u_305 : Cond.code yX10_sumOf cX10_sumOf 7 (some .int) ∈ wsL_law := in_wsL_law_r13 _ (List.mem_of_getElem? (i := 17) rfl)
theorem u_306 : Cond.constant RX10 94 (79764919) ∈ wsL_law := in_wsL_law_r13 _ (List.mem_of_getElem? (i := 18) rfl)
theorem u_307 : Cond.methodLink RX10 115 yX10_drawn ∈ wsL_law := in_wsL_law_r13 _ (List.mem_of_getElem? (i := 19) rfl)
theorem u_308 : Cond.instanceMethod yX10_drawn ∈ wsL_law := in_wsL_law_r13 _ (List.mem_of_getElem? (i := 20) rfl)
theorem u_309 : Cond.selects RX10 yX10_drawn yX10_drawn ∈ wsL_law := in_wsL_law_r13 _ (List.mem_of_getElem? (i := 21) rfl)
theorem u_310 : Cond.code yX10_drawn cX10_drawn 2 (some .int) ∈ wsL_law := in_wsL_law_r13 _ (List.mem_of_getElem? (i := 22) rfl)
theorem u_311 : Cond.fieldLink RX10 91 "StreamRemuxerModel" "outMany" "I" ∈ wsL_law := in_wsL_law_r13 _ (List.mem_of_getElem? (i := 23) rfl)
theorem u_312 : Cond.methodLink RL 35 yX9_elements ∈ wsL_law := in_wsL_law_r14 _ (List.mem_of_getElem? (i := 0) rfl)
theorem u_313 : Cond.instanceMethod yX9_elements ∈ wsL_law := in_wsL_law_r14 _ (List.mem_of_getElem? (i := 1) rfl)
theorem u_314 : Cond.selects RX9 yX9_elements yX9_elements ∈ wsL_law := in_wsL_law_r14 _ (List.mem_of_getElem? (i := 2) rfl)
theorem u_315 : Cond.code yX9_elements cX9_elements 5 (some .int) ∈ wsL_law := in_wsL_law_r14 _ (List.mem_of_getElem? (i := 3) rfl)
theorem u_316 : Cond.methodLink RX9 120 yX2_write ∈ wsL_law := in_wsL_law_r14 _ (List.mem_of_getElem? (i := 4) rfl)
theorem u_317 : Cond.instanceMethod yX2_write ∈ wsL_law := in_wsL_law_r14 _ (List.mem_of_getElem? (i := 5) rfl)
theorem u_318 : Cond.selects RX2 yX2_write yX2_write ∈ wsL_law := in_wsL_law_r14 _ (List.mem_of_getElem? (i := 6) rfl)
theorem u_319 : Cond.code yX2_write cX2_write 8 none ∈ wsL_law := in_wsL_law_r14 _ (List.mem_of_getElem? (i := 7) rfl)
theorem u_320 : Cond.fieldLink RX2 20 "StreamRemuxer$ElementWriter" "source" "LStreamRemuxer$PacketList;" ∈ wsL_law := in_wsL_law_r14 _ (List.mem_of_getElem? (i := 8) rfl)
theorem u_321 : Cond.fieldLink RX2 24 "StreamRemuxer$ElementWriter" "target" "LStreamRemuxer$Row;" ∈ wsL_law := in_wsL_law_r14 _ (List.mem_of_getElem? (i := 9) rfl)
theorem u_322 : Cond.fieldLink RX2 27 "StreamRemuxer$ElementWriter" "lace" "I" ∈ wsL_law := in_wsL_law_r14 _ (List.mem_of_getElem? (i := 10) rfl)
theorem u_323 : Cond.fieldLink RX2 31 "StreamRemuxer$ElementWriter" "mostPackets" "I" ∈ wsL_law := in_wsL_law_r14 _ (List.mem_of_getElem? (i := 11) rfl)
theorem u_324 : Cond.fieldLink RX2 34 "StreamRemuxer$ElementWriter" "unknownSizes" "Z" ∈ wsL_law := in_wsL_law_r14 _ (List.mem_of_getElem? (i := 12) rfl)
theorem u_325 : Cond.fieldLink RX2 38 "StreamRemuxer$ElementWriter" "HEAD_BYTES" "[I" ∈ wsL_law := in_wsL_law_r14 _ (List.mem_of_getElem? (i := 13) rfl)
theorem u_326 : Cond.constant RX2 48 (408125543) ∈ wsL_law := in_wsL_law_r14 _ (List.mem_of_getElem? (i := 14) rfl)
theorem u_327 : Cond.fieldLink RX2 53 "StreamRemuxer$ElementWriter" "INFO_BYTES" "[I" ∈ wsL_law := in_wsL_law_r14 _ (List.mem_of_getElem? (i := 15) rfl)
theorem u_328 : Cond.fieldLink RX2 56 "StreamRemuxer$ElementWriter" "TRACKS_BYTES_TO_LACING" "[I" ∈ wsL_law := in_wsL_law_r14 _ (List.mem_of_getElem? (i := 16) rfl)
theorem u_329 : Cond.fieldLink RX2 62 "StreamRemuxer$ElementWriter" "TRACKS_BYTES_BEHIND" "[I" ∈ wsL_law := in_wsL_law_r14 _ (List.mem_of_getElem? (i := 17) rfl)
theorem u_330 : Cond.methodLink RX2 42 yX8_addEach ∈ wsL_law := in_wsL_law_r14 _ (List.mem_of_getElem? (i := 18) rfl)
theorem u_331 : Cond.instanceMethod yX8_addEach ∈ wsL_law := in_wsL_law_r14 _ (List.mem_of_getElem? (i := 19) rfl)
theorem u_332 : Cond.selects RX8 yX8_addEach yX8_addEach ∈ wsL_law := in_wsL_law_r14 _ (List.mem_of_getElem? (i := 20) rfl)
theorem u_333 : Cond.code yX8_addEach cX8_addEach 3 none ∈ wsL_law := in_wsL_law_r14 _ (List.mem_of_getElem? (i := 21) rfl)
theorem u_334 : Cond.methodLink RX2 49 yX2_beginLongElement ∈ wsL_law := in_wsL_law_r14 _ (List.mem_of_getElem? (i := 22) rfl)
theorem u_335 : Cond.instanceMethod yX2_beginLongElement ∈ wsL_law := in_wsL_law_r14 _ (List.mem_of_getElem? (i := 23) rfl)
theorem u_336 : Cond.selects RX2 yX2_beginLongElement yX2_beginLongElement ∈ wsL_law := in_wsL_law_r15 _ (List.mem_of_getElem? (i := 0) rfl)
theorem u_337 : Cond.code yX2_beginLongElement cX2_beginLongElement 2 (some .int) ∈ wsL_law := in_wsL_law_r15 _ (List.mem_of_getElem? (i := 1) rfl)
theorem u_338 : Cond.fieldLink RX2 104 "StreamRemuxer$Row" "length" "I" ∈ wsL_law := in_wsL_law_r15 _ (List.mem_of_getElem? (i := 2) rfl)
theorem u_339 : Cond.methodLink RX2 100 yX8_addHighFirst ∈ wsL_law := in_wsL_law_r15 _ (List.mem_of_getElem? (i := 3) rfl)
theorem u_340 : Cond.methodLink RX2 59 yX8_add ∈ wsL_law := in_wsL_law_r15 _ (List.mem_of_getElem? (i := 4) rfl)
theorem u_341 : Cond.methodLink RX2 65 yX2_putClusters ∈ wsL_law := in_wsL_law_r15 _ (List.mem_of_getElem? (i := 5) rfl)
theorem u_342 : Cond.instanceMethod yX2_putClusters ∈ wsL_law := in_wsL_law_r15 _ (List.mem_of_getElem? (i := 6) rfl)
theorem u_343 : Cond.selects RX2 yX2_putClusters yX2_putClusters ∈ wsL_law := in_wsL_law_r15 _ (List.mem_of_getElem? (i := 7) rfl)
theorem u_344 : Cond.code yX2_putClusters cX2_putClusters 11 none ∈ wsL_law := in_wsL_law_r15 _ (List.mem_of_getElem? (i := 8) rfl)
theorem u_345 : Cond.fieldLink RX2 71 "StreamRemuxer$PacketList" "packets" "I" ∈ wsL_law := in_wsL_law_r15 _ (List.mem_of_getElem? (i := 9) rfl)
theorem u_346 : Cond.constant RX2 84 (524531317) ∈ wsL_law := in_wsL_law_r15 _ (List.mem_of_getElem? (i := 10) rfl)
theorem u_347 : Cond.methodLink RX2 76 yX4_timeToWrite ∈ wsL_law := in_wsL_law_r15 _ (List.mem_of_getElem? (i := 11) rfl)
theorem u_348 : Cond.methodLink RX2 80 yX2_fitsBlock ∈ wsL_law := in_wsL_law_r15 _ (List.mem_of_getElem? (i := 12) rfl)
theorem u_349 : Cond.static yX2_fitsBlock ∈ wsL_law := in_wsL_law_r15 _ (List.mem_of_getElem? (i := 13) rfl)
theorem u_350 : Cond.code yX2_fitsBlock cX2_fitsBlock 2 (some .boolean) ∈ wsL_law := in_wsL_law_r15 _ (List.mem_of_getElem? (i := 14) rfl)
theorem u_351 : Cond.constantLong RX2 96 (-32768) ∈ wsL_law := in_wsL_law_r15 _ (List.mem_of_getElem? (i := 15) rfl)
theorem u_352 : Cond.constantLong RX2 98 (32767) ∈ wsL_law := in_wsL_law_r15 _ (List.mem_of_getElem? (i := 16) rfl)
theorem u_353 : Cond.methodLink RX2 68 yX2_endLongElement ∈ wsL_law := in_wsL_law_r15 _ (List.mem_of_getElem? (i := 17) rfl)
theorem u_354 : Cond.instanceMethod yX2_endLongElement ∈ wsL_law := in_wsL_law_r15 _ (List.mem_of_getElem? (i := 18) rfl)
theorem u_355 : Cond.selects RX2 yX2_endLongElement yX2_endLongElement ∈ wsL_law := in_wsL_law_r15 _ (List.mem_of_getElem? (i := 19) rfl)
theorem u_356 : Cond.code yX2_endLongElement cX2_endLongElement 4 none ∈ wsL_law := in_wsL_law_r15 _ (List.mem_of_getElem? (i := 20) rfl)
theorem u_357 : Cond.constant RX2 107 (268435456) ∈ wsL_law := in_wsL_law_r15 _ (List.mem_of_getElem? (i := 21) rfl)
theorem u_358 : Cond.methodLink RX2 108 yX8_change ∈ wsL_law := in_wsL_law_r15 _ (List.mem_of_getElem? (i := 22) rfl)
theorem u_359 : Cond.methodLink RX2 85 yX2_putClusterTime ∈ wsL_law := in_wsL_law_r15 _ (List.mem_of_getElem? (i := 23) rfl)
theorem u_360 : Cond.instanceMethod yX2_putClusterTime ∈ wsL_law := in_wsL_law_r16 _ (List.mem_of_getElem? (i := 0) rfl)
theorem u_361 : Cond.selects RX2 yX2_putClusterTime yX2_putClusterTime ∈ wsL_law := in_wsL_law_r16 _ (List.mem_of_getElem? (i := 1) rfl)
theorem u_362 : Cond.code yX2_putClusterTime cX2_putClusterTime 5 none ∈ wsL_law := in_wsL_law_r16 _ (List.mem_of_getElem? (i := 2) rfl)
theorem u_363 : Cond.methodLink RX2 112 yX2_putSize ∈ wsL_law := in_wsL_law_r16 _ (List.mem_of_getElem? (i := 3) rfl)
theorem u_364 : Cond.static yX2_putSize ∈ wsL_law := in_wsL_law_r16 _ (List.mem_of_getElem? (i := 4) rfl)
theorem u_365 : Cond.code yX2_putSize cX2_putSize 4 none ∈ wsL_law := in_wsL_law_r16 _ (List.mem_of_getElem? (i := 5) rfl)
theorem u_366 : Cond.methodLink RX2 147 yX0_highestSize ∈ wsL_law := in_wsL_law_r16 _ (List.mem_of_getElem? (i := 6) rfl)
theorem u_367 : Cond.static yX0_highestSize ∈ wsL_law := in_wsL_law_r16 _ (List.mem_of_getElem? (i := 7) rfl)
theorem u_368 : Cond.initialized RX0 ∈ wsL_law := in_wsL_law_r16 _ (List.mem_of_getElem? (i := 8) rfl)
theorem u_369 : Cond.code yX0_highestSize cX0_highestSize 1 (some .long) ∈ wsL_law := in_wsL_law_r16 _ (List.mem_of_getElem? (i := 9) rfl)
theorem u_370 : Cond.constantLong RX0 7 (2) ∈ wsL_law := in_wsL_law_r16 _ (List.mem_of_getElem? (i := 10) rfl)
theorem u_371 : Cond.methodLink RX2 89 yX2_packetsOfBlock ∈ wsL_law := in_wsL_law_r16 _ (List.mem_of_getElem? (i := 11) rfl)
theorem u_372 : Cond.instanceMethod yX2_packetsOfBlock ∈ wsL_law := in_wsL_law_r16 _ (List.mem_of_getElem? (i := 12) rfl)
theorem u_373 : Cond.selects RX2 yX2_packetsOfBlock yX2_packetsOfBlock ∈ wsL_law := in_wsL_law_r16 _ (List.mem_of_getElem? (i := 13) rfl)
theorem u_374 : Cond.code yX2_packetsOfBlock cX2_packetsOfBlock 4 (some .int) ∈ wsL_law := in_wsL_law_r16 _ (List.mem_of_getElem? (i := 14) rfl)
theorem u_375 : Cond.methodLink RX2 116 yX4_bytesOf ∈ wsL_law := in_wsL_law_r16 _ (List.mem_of_getElem? (i := 15) rfl)
theorem u_376 : Cond.methodLink RX2 92 yX2_putBlock ∈ wsL_law := in_wsL_law_r16 _ (List.mem_of_getElem? (i := 16) rfl)
theorem u_377 : Cond.instanceMethod yX2_putBlock ∈ wsL_law := in_wsL_law_r16 _ (List.mem_of_getElem? (i := 17) rfl)
theorem u_378 : Cond.selects RX2 yX2_putBlock yX2_putBlock ∈ wsL_law := in_wsL_law_r16 _ (List.mem_of_getElem? (i := 18) rfl)
theorem u_379 : Cond.code yX2_putBlock cX2_putBlock 8 none ∈ wsL_law := in_wsL_law_r16 _ (List.mem_of_getElem? (i := 19) rfl)
theorem u_380 : Cond.fieldLink RX2 135 "StreamRemuxer$PacketList" "bytes" "LStreamRemuxer$Row;" ∈ wsL_law := in_wsL_law_r16 _ (List.mem_of_getElem? (i := 20) rfl)
theorem u_381 : Cond.methodLink RX2 119 yX8_empty ∈ wsL_law := in_wsL_law_r16 _ (List.mem_of_getElem? (i := 21) rfl)
theorem u_382 : Cond.methodLink RX2 122 yX2_putSummedSize ∈ wsL_law := in_wsL_law_r16 _ (List.mem_of_getElem? (i := 22) rfl)
theorem u_383 : Cond.instanceMethod yX2_putSummedSize ∈ wsL_law := in_wsL_law_r16 _ (List.mem_of_getElem? (i := 23) rfl)
theorem u_384 : Cond.selects RX2 yX2_putSummedSize yX2_putSummedSize ∈ wsL_law := in_wsL_law_r17 _ (List.mem_of_getElem? (i := 0) rfl)
theorem u_385 : Cond.code yX2_putSummedSize cX2_putSummedSize 4 none ∈ wsL_law := in_wsL_law_r17 _ (List.mem_of_getElem? (i := 1) rfl)
theorem u_386 : Cond.methodLink RX2 125 yX2_putDifference ∈ wsL_law := in_wsL_law_r17 _ (List.mem_of_getElem? (i := 2) rfl)
theorem u_387 : Cond.instanceMethod yX2_putDifference ∈ wsL_law := in_wsL_law_r17 _ (List.mem_of_getElem? (i := 3) rfl)
theorem u_388 : Cond.selects RX2 yX2_putDifference yX2_putDifference ∈ wsL_law := in_wsL_law_r17 _ (List.mem_of_getElem? (i := 4) rfl)
theorem u_389 : Cond.code yX2_putDifference cX2_putDifference 6 none ∈ wsL_law := in_wsL_law_r17 _ (List.mem_of_getElem? (i := 5) rfl)
theorem u_390 : Cond.methodLink RX2 138 Lib.MathLoose.abs_long.x ∈ wsL_law := in_wsL_law_r17 _ (List.mem_of_getElem? (i := 6) rfl)
theorem u_391 : Cond.static Lib.MathLoose.abs_long.x ∈ wsL_law := in_wsL_law_r17 _ (List.mem_of_getElem? (i := 7) rfl)
theorem u_392 : Cond.code Lib.MathLoose.abs_long.x Lib.MathLoose.abs_long.code 2 (some .long) ∈ wsL_law := in_wsL_law_r17 _ (List.mem_of_getElem? (i := 8) rfl)
theorem u_393 : Cond.methodLink RX2 144 yX0_differenceShift ∈ wsL_law := in_wsL_law_r17 _ (List.mem_of_getElem? (i := 9) rfl)
theorem u_394 : Cond.static yX0_differenceShift ∈ wsL_law := in_wsL_law_r17 _ (List.mem_of_getElem? (i := 10) rfl)
theorem u_395 : Cond.code yX0_differenceShift cX0_differenceShift 1 (some .long) ∈ wsL_law := in_wsL_law_r17 _ (List.mem_of_getElem? (i := 11) rfl)
theorem u_396 : Cond.methodLink RX2 128 yX4_beginOf ∈ wsL_law := in_wsL_law_r17 _ (List.mem_of_getElem? (i := 12) rfl)
theorem u_397 : Cond.methodLink RX2 131 yX8_addPart ∈ wsL_law := in_wsL_law_r17 _ (List.mem_of_getElem? (i := 13) rfl)
theorem u_398 : Cond.methodLink RL 39 yX10_elements_ ∈ wsL_law := in_wsL_law_r17 _ (List.mem_of_getElem? (i := 14) rfl)
theorem u_399 : Cond.instanceMethod yX10_elements_ ∈ wsL_law := in_wsL_law_r17 _ (List.mem_of_getElem? (i := 15) rfl)
theorem u_400 : Cond.selects RX10 yX10_elements_ yX10_elements_ ∈ wsL_law := in_wsL_law_r17 _ (List.mem_of_getElem? (i := 16) rfl)
theorem u_401 : Cond.code yX10_elements_ cX10_elements_ 18 (some .int) ∈ wsL_law := in_wsL_law_r17 _ (List.mem_of_getElem? (i := 17) rfl)
theorem u_402 : Cond.constantLong RX10 318 (408125543) ∈ wsL_law := in_wsL_law_r17 _ (List.mem_of_getElem? (i := 18) rfl)
theorem u_403 : Cond.constantLong RX10 328 (524531317) ∈ wsL_law := in_wsL_law_r17 _ (List.mem_of_getElem? (i := 19) rfl)
theorem u_404 : Cond.methodLink RX10 314 yX10_putRow ∈ wsL_law := in_wsL_law_r17 _ (List.mem_of_getElem? (i := 20) rfl)
theorem u_405 : Cond.instanceMethod yX10_putRow ∈ wsL_law := in_wsL_law_r17 _ (List.mem_of_getElem? (i := 21) rfl)
theorem u_406 : Cond.selects RX10 yX10_putRow yX10_putRow ∈ wsL_law := in_wsL_law_r17 _ (List.mem_of_getElem? (i := 22) rfl)
theorem u_407 : Cond.code yX10_putRow cX10_putRow 3 none ∈ wsL_law := in_wsL_law_r17 _ (List.mem_of_getElem? (i := 23) rfl)
theorem u_408 : Cond.methodLink RX10 310 yX10_putHigh ∈ wsL_law := in_wsL_law_r18 _ (List.mem_of_getElem? (i := 0) rfl)
theorem u_409 : Cond.instanceMethod yX10_putHigh ∈ wsL_law := in_wsL_law_r18 _ (List.mem_of_getElem? (i := 1) rfl)
theorem u_410 : Cond.selects RX10 yX10_putHigh yX10_putHigh ∈ wsL_law := in_wsL_law_r18 _ (List.mem_of_getElem? (i := 2) rfl)
theorem u_411 : Cond.code yX10_putHigh cX10_putHigh 5 none ∈ wsL_law := in_wsL_law_r18 _ (List.mem_of_getElem? (i := 3) rfl)
theorem u_412 : Cond.methodLink RX10 320 yX10_later ∈ wsL_law := in_wsL_law_r18 _ (List.mem_of_getElem? (i := 4) rfl)
theorem u_413 : Cond.instanceMethod yX10_later ∈ wsL_law := in_wsL_law_r18 _ (List.mem_of_getElem? (i := 5) rfl)
theorem u_414 : Cond.selects RX10 yX10_later yX10_later ∈ wsL_law := in_wsL_law_r18 _ (List.mem_of_getElem? (i := 6) rfl)
theorem u_415 : Cond.code yX10_later cX10_later 2 (some .int) ∈ wsL_law := in_wsL_law_r18 _ (List.mem_of_getElem? (i := 7) rfl)
theorem u_416 : Cond.methodLink RX10 324 yX10_tell ∈ wsL_law := in_wsL_law_r18 _ (List.mem_of_getElem? (i := 8) rfl)
theorem u_417 : Cond.instanceMethod yX10_tell ∈ wsL_law := in_wsL_law_r18 _ (List.mem_of_getElem? (i := 9) rfl)
theorem u_418 : Cond.selects RX10 yX10_tell yX10_tell ∈ wsL_law := in_wsL_law_r18 _ (List.mem_of_getElem? (i := 10) rfl)
theorem u_419 : Cond.code yX10_tell cX10_tell 5 none ∈ wsL_law := in_wsL_law_r18 _ (List.mem_of_getElem? (i := 11) rfl)
theorem u_420 : Cond.constant RX10 313 (268435456) ∈ wsL_law := in_wsL_law_r18 _ (List.mem_of_getElem? (i := 12) rfl)
theorem u_421 : Cond.methodLink RX10 330 yX10_putBlock ∈ wsL_law := in_wsL_law_r18 _ (List.mem_of_getElem? (i := 13) rfl)
theorem u_422 : Cond.instanceMethod yX10_putBlock ∈ wsL_law := in_wsL_law_r18 _ (List.mem_of_getElem? (i := 14) rfl)
theorem u_423 : Cond.selects RX10 yX10_putBlock yX10_putBlock ∈ wsL_law := in_wsL_law_r18 _ (List.mem_of_getElem? (i := 15) rfl)
theorem u_424 : Cond.code yX10_putBlock cX10_putBlock 11 none ∈ wsL_law := in_wsL_law_r18 _ (List.mem_of_getElem? (i := 16) rfl)
theorem u_425 : Cond.constantLong RX10 268 (4) ∈ wsL_law := in_wsL_law_r18 _ (List.mem_of_getElem? (i := 17) rfl)
theorem u_426 : Cond.methodLink RX10 306 yX10_sizeLength ∈ wsL_law := in_wsL_law_r18 _ (List.mem_of_getElem? (i := 18) rfl)
theorem u_427 : Cond.static yX10_sizeLength ∈ wsL_law := in_wsL_law_r18 _ (List.mem_of_getElem? (i := 19) rfl)
theorem u_428 : Cond.code yX10_sizeLength cX10_sizeLength 3 (some .int) ∈ wsL_law := in_wsL_law_r18 _ (List.mem_of_getElem? (i := 20) rfl)
theorem u_429 : Cond.methodLink RX10 334 yX10_signedLength ∈ wsL_law := in_wsL_law_r18 _ (List.mem_of_getElem? (i := 21) rfl)
theorem u_430 : Cond.static yX10_signedLength ∈ wsL_law := in_wsL_law_r18 _ (List.mem_of_getElem? (i := 22) rfl)
theorem u_431 : Cond.code yX10_signedLength cX10_signedLength 3 (some .int) ∈ wsL_law := in_wsL_law_r18 _ (List.mem_of_getElem? (i := 23) rfl)
theorem u_432 : Cond.methodLink RX10 337 yX10_putSize ∈ wsL_law := in_wsL_law_r19 _ (List.mem_of_getElem? (i := 0) rfl)
theorem u_433 : Cond.instanceMethod yX10_putSize ∈ wsL_law := in_wsL_law_r19 _ (List.mem_of_getElem? (i := 1) rfl)
theorem u_434 : Cond.selects RX10 yX10_putSize yX10_putSize ∈ wsL_law := in_wsL_law_r19 _ (List.mem_of_getElem? (i := 2) rfl)
theorem u_435 : Cond.code yX10_putSize cX10_putSize 4 none ∈ wsL_law := in_wsL_law_r19 _ (List.mem_of_getElem? (i := 3) rfl)
theorem u_436 : Cond.methodLink RL 40 yX9_readPages ∈ wsL_law := in_wsL_law_r19 _ (List.mem_of_getElem? (i := 4) rfl)
theorem u_437 : Cond.instanceMethod yX9_readPages ∈ wsL_law := in_wsL_law_r19 _ (List.mem_of_getElem? (i := 5) rfl)
theorem u_438 : Cond.selects RX9 yX9_readPages yX9_readPages ∈ wsL_law := in_wsL_law_r19 _ (List.mem_of_getElem? (i := 6) rfl)
theorem u_439 : Cond.code yX9_readPages cX9_readPages 2 (some .int) ∈ wsL_law := in_wsL_law_r19 _ (List.mem_of_getElem? (i := 7) rfl)
theorem u_440 : Cond.fieldLink RX9 127 "StreamRemuxer$PageReader" "fault" "I" ∈ wsL_law := in_wsL_law_r19 _ (List.mem_of_getElem? (i := 8) rfl)
theorem u_441 : Cond.fieldLink RX9 128 "StreamRemuxer$PageReader" "place" "I" ∈ wsL_law := in_wsL_law_r19 _ (List.mem_of_getElem? (i := 9) rfl)
theorem u_442 : Cond.fieldLink RX9 131 "StreamRemuxer$PageReader" "pageCount" "I" ∈ wsL_law := in_wsL_law_r19 _ (List.mem_of_getElem? (i := 10) rfl)
theorem u_443 : Cond.fieldLink RX9 134 "StreamRemuxer" "pagesRead" "I" ∈ wsL_law := in_wsL_law_r19 _ (List.mem_of_getElem? (i := 11) rfl)
theorem u_444 : Cond.methodLink RX9 123 yX6_read ∈ wsL_law := in_wsL_law_r19 _ (List.mem_of_getElem? (i := 12) rfl)
theorem u_445 : Cond.instanceMethod yX6_read ∈ wsL_law := in_wsL_law_r19 _ (List.mem_of_getElem? (i := 13) rfl)
theorem u_446 : Cond.selects RX6 yX6_read yX6_read ∈ wsL_law := in_wsL_law_r19 _ (List.mem_of_getElem? (i := 14) rfl)
theorem u_447 : Cond.code yX6_read cX6_read 6 none ∈ wsL_law := in_wsL_law_r19 _ (List.mem_of_getElem? (i := 15) rfl)
theorem u_448 : Cond.fieldLink RX6 9 "StreamRemuxer$PageReader" "file" "LStreamRemuxer$Row;" ∈ wsL_law := in_wsL_law_r19 _ (List.mem_of_getElem? (i := 16) rfl)
theorem u_449 : Cond.fieldLink RX6 15 "StreamRemuxer$PageReader" "limit" "I" ∈ wsL_law := in_wsL_law_r19 _ (List.mem_of_getElem? (i := 17) rfl)
theorem u_450 : Cond.fieldLink RX6 19 "StreamRemuxer$PageReader" "target" "LStreamRemuxer$PacketList;" ∈ wsL_law := in_wsL_law_r19 _ (List.mem_of_getElem? (i := 18) rfl)
theorem u_451 : Cond.fieldLink RX6 23 "StreamRemuxer$PageReader" "pageCount" "I" ∈ wsL_law := in_wsL_law_r19 _ (List.mem_of_getElem? (i := 19) rfl)
theorem u_452 : Cond.fieldLink RX6 26 "StreamRemuxer$PageReader" "packetIsOpen" "Z" ∈ wsL_law := in_wsL_law_r19 _ (List.mem_of_getElem? (i := 20) rfl)
theorem u_453 : Cond.fieldLink RX6 30 "StreamRemuxer$PageReader" "lastWasRead" "Z" ∈ wsL_law := in_wsL_law_r19 _ (List.mem_of_getElem? (i := 21) rfl)
theorem u_454 : Cond.fieldLink RX6 33 "StreamRemuxer$PageReader" "latestTime" "J" ∈ wsL_law := in_wsL_law_r19 _ (List.mem_of_getElem? (i := 22) rfl)
theorem u_455 : Cond.fieldLink RX6 37 "StreamRemuxer$PageReader" "fault" "I" ∈ wsL_law := in_wsL_law_r19 _ (List.mem_of_getElem? (i := 23) rfl)
theorem u_456 : Cond.fieldLink RX6 40 "StreamRemuxer$PageReader" "place" "I" ∈ wsL_law := in_wsL_law_r20 _ (List.mem_of_getElem? (i := 0) rfl)
theorem u_457 : Cond.methodLink RX6 43 yX6_faultOf ∈ wsL_law := in_wsL_law_r20 _ (List.mem_of_getElem? (i := 1) rfl)
theorem u_458 : Cond.instanceMethod yX6_faultOf ∈ wsL_law := in_wsL_law_r20 _ (List.mem_of_getElem? (i := 2) rfl)
theorem u_459 : Cond.selects RX6 yX6_faultOf yX6_faultOf ∈ wsL_law := in_wsL_law_r20 _ (List.mem_of_getElem? (i := 3) rfl)
theorem u_460 : Cond.code yX6_faultOf cX6_faultOf 6 (some .int) ∈ wsL_law := in_wsL_law_r20 _ (List.mem_of_getElem? (i := 4) rfl)
theorem u_461 : Cond.methodLink RX6 56 yX5_isMarked ∈ wsL_law := in_wsL_law_r20 _ (List.mem_of_getElem? (i := 5) rfl)
theorem u_462 : Cond.static yX5_isMarked ∈ wsL_law := in_wsL_law_r20 _ (List.mem_of_getElem? (i := 6) rfl)
theorem u_463 : Cond.code yX5_isMarked cX5_isMarked 2 (some .boolean) ∈ wsL_law := in_wsL_law_r20 _ (List.mem_of_getElem? (i := 7) rfl)
theorem u_464 : Cond.constant RX5 17 (1332176723) ∈ wsL_law := in_wsL_law_r20 _ (List.mem_of_getElem? (i := 8) rfl)
theorem u_465 : Cond.methodLink RX5 9 yX8_highFirst ∈ wsL_law := in_wsL_law_r20 _ (List.mem_of_getElem? (i := 9) rfl)
theorem u_466 : Cond.instanceMethod yX8_highFirst ∈ wsL_law := in_wsL_law_r20 _ (List.mem_of_getElem? (i := 10) rfl)
theorem u_467 : Cond.selects RX8 yX8_highFirst yX8_highFirst ∈ wsL_law := in_wsL_law_r20 _ (List.mem_of_getElem? (i := 11) rfl)
theorem u_468 : Cond.code yX8_highFirst cX8_highFirst 6 (some .long) ∈ wsL_law := in_wsL_law_r20 _ (List.mem_of_getElem? (i := 12) rfl)
theorem u_469 : Cond.methodLink RX6 60 yX8_at ∈ wsL_law := in_wsL_law_r20 _ (List.mem_of_getElem? (i := 13) rfl)
theorem u_470 : Cond.methodLink RX6 65 yX5_endOf ∈ wsL_law := in_wsL_law_r20 _ (List.mem_of_getElem? (i := 14) rfl)
theorem u_471 : Cond.static yX5_endOf ∈ wsL_law := in_wsL_law_r20 _ (List.mem_of_getElem? (i := 15) rfl)
theorem u_472 : Cond.code yX5_endOf cX5_endOf 6 (some .int) ∈ wsL_law := in_wsL_law_r20 _ (List.mem_of_getElem? (i := 16) rfl)
theorem u_473 : Cond.methodLink RX6 69 yX5_sumOf ∈ wsL_law := in_wsL_law_r20 _ (List.mem_of_getElem? (i := 17) rfl)
theorem u_474 : Cond.methodLink RX6 72 yX6_numberAt ∈ wsL_law := in_wsL_law_r20 _ (List.mem_of_getElem? (i := 18) rfl)
theorem u_475 : Cond.instanceMethod yX6_numberAt ∈ wsL_law := in_wsL_law_r20 _ (List.mem_of_getElem? (i := 19) rfl)
theorem u_476 : Cond.selects RX6 yX6_numberAt yX6_numberAt ∈ wsL_law := in_wsL_law_r20 _ (List.mem_of_getElem? (i := 20) rfl)
theorem u_477 : Cond.code yX6_numberAt cX6_numberAt 2 (some .int) ∈ wsL_law := in_wsL_law_r20 _ (List.mem_of_getElem? (i := 21) rfl)
theorem u_478 : Cond.methodLink RX6 82 yX8_lowFirst ∈ wsL_law := in_wsL_law_r20 _ (List.mem_of_getElem? (i := 22) rfl)
theorem u_479 : Cond.instanceMethod yX8_lowFirst ∈ wsL_law := in_wsL_law_r20 _ (List.mem_of_getElem? (i := 23) rfl)
theorem u_480 : Cond.selects RX8 yX8_lowFirst yX8_lowFirst ∈ wsL_law := in_wsL_law_r21 _ (List.mem_of_getElem? (i := 0) rfl)
theorem u_481 : Cond.code yX8_lowFirst cX8_lowFirst 6 (some .long) ∈ wsL_law := in_wsL_law_r21 _ (List.mem_of_getElem? (i := 1) rfl)
theorem u_482 : Cond.methodLink RX6 75 yX6_isOutOfOrder ∈ wsL_law := in_wsL_law_r21 _ (List.mem_of_getElem? (i := 2) rfl)
theorem u_483 : Cond.instanceMethod yX6_isOutOfOrder ∈ wsL_law := in_wsL_law_r21 _ (List.mem_of_getElem? (i := 3) rfl)
theorem u_484 : Cond.selects RX6 yX6_isOutOfOrder yX6_isOutOfOrder ∈ wsL_law := in_wsL_law_r21 _ (List.mem_of_getElem? (i := 4) rfl)
theorem u_485 : Cond.code yX6_isOutOfOrder cX6_isOutOfOrder 4 (some .boolean) ∈ wsL_law := in_wsL_law_r21 _ (List.mem_of_getElem? (i := 5) rfl)
theorem u_486 : Cond.fieldLink RX6 95 "StreamRemuxer$PageReader" "serial" "I" ∈ wsL_law := in_wsL_law_r21 _ (List.mem_of_getElem? (i := 6) rfl)
theorem u_487 : Cond.methodLink RX6 79 yX6_packetsEnding ∈ wsL_law := in_wsL_law_r21 _ (List.mem_of_getElem? (i := 7) rfl)
theorem u_488 : Cond.instanceMethod yX6_packetsEnding ∈ wsL_law := in_wsL_law_r21 _ (List.mem_of_getElem? (i := 8) rfl)
theorem u_489 : Cond.selects RX6 yX6_packetsEnding yX6_packetsEnding ∈ wsL_law := in_wsL_law_r21 _ (List.mem_of_getElem? (i := 9) rfl)
theorem u_490 : Cond.code yX6_packetsEnding cX6_packetsEnding 5 (some .int) ∈ wsL_law := in_wsL_law_r21 _ (List.mem_of_getElem? (i := 10) rfl)
theorem u_491 : Cond.methodLink RX6 86 yX6_isTimeWrong ∈ wsL_law := in_wsL_law_r21 _ (List.mem_of_getElem? (i := 11) rfl)
theorem u_492 : Cond.instanceMethod yX6_isTimeWrong ∈ wsL_law := in_wsL_law_r21 _ (List.mem_of_getElem? (i := 12) rfl)
theorem u_493 : Cond.selects RX6 yX6_isTimeWrong yX6_isTimeWrong ∈ wsL_law := in_wsL_law_r21 _ (List.mem_of_getElem? (i := 13) rfl)
theorem u_494 : Cond.code yX6_isTimeWrong cX6_isTimeWrong 4 (some .boolean) ∈ wsL_law := in_wsL_law_r21 _ (List.mem_of_getElem? (i := 14) rfl)
theorem u_495 : Cond.constantLong RX6 98 (-1) ∈ wsL_law := in_wsL_law_r21 _ (List.mem_of_getElem? (i := 15) rfl)
theorem u_496 : Cond.constantLong RX6 100 (1099511627775) ∈ wsL_law := in_wsL_law_r21 _ (List.mem_of_getElem? (i := 16) rfl)
theorem u_497 : Cond.methodLink RX6 90 yX4_hasRoom ∈ wsL_law := in_wsL_law_r21 _ (List.mem_of_getElem? (i := 17) rfl)
theorem u_498 : Cond.methodLink RX6 47 yX6_takePage ∈ wsL_law := in_wsL_law_r21 _ (List.mem_of_getElem? (i := 18) rfl)
theorem u_499 : Cond.instanceMethod yX6_takePage ∈ wsL_law := in_wsL_law_r21 _ (List.mem_of_getElem? (i := 19) rfl)
theorem u_500 : Cond.selects RX6 yX6_takePage yX6_takePage ∈ wsL_law := in_wsL_law_r21 _ (List.mem_of_getElem? (i := 20) rfl)
theorem u_501 : Cond.code yX6_takePage cX6_takePage 9 (some .int) ∈ wsL_law := in_wsL_law_r21 _ (List.mem_of_getElem? (i := 21) rfl)
theorem u_502 : Cond.fieldLink RX6 102 "StreamRemuxer$PacketList" "bytes" "LStreamRemuxer$Row;" ∈ wsL_law := in_wsL_law_r21 _ (List.mem_of_getElem? (i := 22) rfl)
theorem u_503 : Cond.methodLink RX6 105 yX8_addPart ∈ wsL_law := in_wsL_law_r21 _ (List.mem_of_getElem? (i := 23) rfl)
theorem u_504 : Cond.methodLink RX6 109 yX4_endPacket ∈ wsL_law := in_wsL_law_r22 _ (List.mem_of_getElem? (i := 0) rfl)
theorem u_505 : Cond.methodLink RX6 50 yX6_faultAtEnd ∈ wsL_law := in_wsL_law_r22 _ (List.mem_of_getElem? (i := 1) rfl)
theorem u_506 : Cond.instanceMethod yX6_faultAtEnd ∈ wsL_law := in_wsL_law_r22 _ (List.mem_of_getElem? (i := 2) rfl)
theorem u_507 : Cond.selects RX6 yX6_faultAtEnd yX6_faultAtEnd ∈ wsL_law := in_wsL_law_r22 _ (List.mem_of_getElem? (i := 3) rfl)
theorem u_508 : Cond.code yX6_faultAtEnd cX6_faultAtEnd 1 (some .int) ∈ wsL_law := in_wsL_law_r22 _ (List.mem_of_getElem? (i := 4) rfl)
theorem u_509 : Cond.methodLink RX9 137 yX9_takeSpareList ∈ wsL_law := in_wsL_law_r22 _ (List.mem_of_getElem? (i := 5) rfl)
theorem u_510 : Cond.instanceMethod yX9_takeSpareList ∈ wsL_law := in_wsL_law_r22 _ (List.mem_of_getElem? (i := 6) rfl)
theorem u_511 : Cond.selects RX9 yX9_takeSpareList yX9_takeSpareList ∈ wsL_law := in_wsL_law_r22 _ (List.mem_of_getElem? (i := 7) rfl)
theorem u_512 : Cond.code yX9_takeSpareList cX9_takeSpareList 2 (some .int) ∈ wsL_law := in_wsL_law_r22 _ (List.mem_of_getElem? (i := 8) rfl)
theorem u_513 : Cond.methodLink RL 44 yX10_readPages ∈ wsL_law := in_wsL_law_r22 _ (List.mem_of_getElem? (i := 9) rfl)
theorem u_514 : Cond.instanceMethod yX10_readPages ∈ wsL_law := in_wsL_law_r22 _ (List.mem_of_getElem? (i := 10) rfl)
theorem u_515 : Cond.selects RX10 yX10_readPages yX10_readPages ∈ wsL_law := in_wsL_law_r22 _ (List.mem_of_getElem? (i := 11) rfl)
theorem u_516 : Cond.code yX10_readPages cX10_readPages 4 (some .int) ∈ wsL_law := in_wsL_law_r22 _ (List.mem_of_getElem? (i := 12) rfl)
theorem u_517 : Cond.fieldLink RX10 138 "StreamRemuxerModel" "pages" "I" ∈ wsL_law := in_wsL_law_r22 _ (List.mem_of_getElem? (i := 13) rfl)
theorem u_518 : Cond.fieldLink RX10 141 "StreamRemuxerModel" "openBytes" "I" ∈ wsL_law := in_wsL_law_r22 _ (List.mem_of_getElem? (i := 14) rfl)
theorem u_519 : Cond.fieldLink RX10 144 "StreamRemuxerModel" "isLast" "Z" ∈ wsL_law := in_wsL_law_r22 _ (List.mem_of_getElem? (i := 15) rfl)
theorem u_520 : Cond.fieldLink RX10 147 "StreamRemuxerModel" "lastTime" "J" ∈ wsL_law := in_wsL_law_r22 _ (List.mem_of_getElem? (i := 16) rfl)
theorem u_521 : Cond.fieldLink RX10 119 "StreamRemuxerModel" "fault" "I" ∈ wsL_law := in_wsL_law_r22 _ (List.mem_of_getElem? (i := 17) rfl)
theorem u_522 : Cond.fieldLink RX10 161 "StreamRemuxerModel" "pageCount" "I" ∈ wsL_law := in_wsL_law_r22 _ (List.mem_of_getElem? (i := 18) rfl)
theorem u_523 : Cond.methodLink RX10 135 yX10_begin ∈ wsL_law := in_wsL_law_r22 _ (List.mem_of_getElem? (i := 19) rfl)
theorem u_524 : Cond.instanceMethod yX10_begin ∈ wsL_law := in_wsL_law_r22 _ (List.mem_of_getElem? (i := 20) rfl)
theorem u_525 : Cond.selects RX10 yX10_begin yX10_begin ∈ wsL_law := in_wsL_law_r22 _ (List.mem_of_getElem? (i := 21) rfl)
theorem u_526 : Cond.code yX10_begin cX10_begin 1 none ∈ wsL_law := in_wsL_law_r22 _ (List.mem_of_getElem? (i := 22) rfl)
theorem u_527 : Cond.fieldLink RX10 122 "StreamRemuxerModel" "faultAt" "I" ∈ wsL_law := in_wsL_law_r22 _ (List.mem_of_getElem? (i := 23) rfl)
theorem u_528 : Cond.fieldLink RX10 75 "StreamRemuxerModel" "readMany" "I" ∈ wsL_law := in_wsL_law_r23 _ (List.mem_of_getElem? (i := 0) rfl)
theorem u_529 : Cond.fieldLink RX10 78 "StreamRemuxerModel" "readTotal" "I" ∈ wsL_law := in_wsL_law_r23 _ (List.mem_of_getElem? (i := 1) rfl)
theorem u_530 : Cond.methodLink RX10 151 yX10_fails ∈ wsL_law := in_wsL_law_r23 _ (List.mem_of_getElem? (i := 2) rfl)
theorem u_531 : Cond.instanceMethod yX10_fails ∈ wsL_law := in_wsL_law_r23 _ (List.mem_of_getElem? (i := 3) rfl)
theorem u_532 : Cond.selects RX10 yX10_fails yX10_fails ∈ wsL_law := in_wsL_law_r23 _ (List.mem_of_getElem? (i := 4) rfl)
theorem u_533 : Cond.code yX10_fails cX10_fails 3 (some .boolean) ∈ wsL_law := in_wsL_law_r23 _ (List.mem_of_getElem? (i := 5) rfl)
theorem u_534 : Cond.methodLink RX10 155 yX10_page ∈ wsL_law := in_wsL_law_r23 _ (List.mem_of_getElem? (i := 6) rfl)
theorem u_535 : Cond.instanceMethod yX10_page ∈ wsL_law := in_wsL_law_r23 _ (List.mem_of_getElem? (i := 7) rfl)
theorem u_536 : Cond.selects RX10 yX10_page yX10_page ∈ wsL_law := in_wsL_law_r23 _ (List.mem_of_getElem? (i := 8) rfl)
theorem u_537 : Cond.code yX10_page cX10_page 8 (some .boolean) ∈ wsL_law := in_wsL_law_r23 _ (List.mem_of_getElem? (i := 9) rfl)
theorem u_538 : Cond.fieldLink RX10 178 "StreamRemuxerModel" "lastNumber" "I" ∈ wsL_law := in_wsL_law_r23 _ (List.mem_of_getElem? (i := 10) rfl)
theorem u_539 : Cond.fieldLink RX10 181 "StreamRemuxerModel" "serial" "I" ∈ wsL_law := in_wsL_law_r23 _ (List.mem_of_getElem? (i := 11) rfl)
theorem u_540 : Cond.methodLink RX10 167 yX10_isMark ∈ wsL_law := in_wsL_law_r23 _ (List.mem_of_getElem? (i := 12) rfl)
theorem u_541 : Cond.instanceMethod yX10_isMark ∈ wsL_law := in_wsL_law_r23 _ (List.mem_of_getElem? (i := 13) rfl)
theorem u_542 : Cond.selects RX10 yX10_isMark yX10_isMark ∈ wsL_law := in_wsL_law_r23 _ (List.mem_of_getElem? (i := 14) rfl)
theorem u_543 : Cond.code yX10_isMark cX10_isMark 2 (some .boolean) ∈ wsL_law := in_wsL_law_r23 _ (List.mem_of_getElem? (i := 15) rfl)
theorem u_544 : Cond.methodLink RX10 125 yX10_at ∈ wsL_law := in_wsL_law_r23 _ (List.mem_of_getElem? (i := 16) rfl)
theorem u_545 : Cond.instanceMethod yX10_at ∈ wsL_law := in_wsL_law_r23 _ (List.mem_of_getElem? (i := 17) rfl)
theorem u_546 : Cond.selects RX10 yX10_at yX10_at ∈ wsL_law := in_wsL_law_r23 _ (List.mem_of_getElem? (i := 18) rfl)
theorem u_547 : Cond.code yX10_at cX10_at 2 (some .int) ∈ wsL_law := in_wsL_law_r23 _ (List.mem_of_getElem? (i := 19) rfl)
theorem u_548 : Cond.methodLink RX10 171 yX10_isWhole ∈ wsL_law := in_wsL_law_r23 _ (List.mem_of_getElem? (i := 20) rfl)
theorem u_549 : Cond.instanceMethod yX10_isWhole ∈ wsL_law := in_wsL_law_r23 _ (List.mem_of_getElem? (i := 21) rfl)
theorem u_550 : Cond.selects RX10 yX10_isWhole yX10_isWhole ∈ wsL_law := in_wsL_law_r23 _ (List.mem_of_getElem? (i := 22) rfl)
theorem u_551 : Cond.code yX10_isWhole cX10_isWhole 3 (some .boolean) ∈ wsL_law := in_wsL_law_r23 _ (List.mem_of_getElem? (i := 23) rfl)
theorem u_552 : Cond.methodLink RX10 158 yX10_lengthOf ∈ wsL_law := in_wsL_law_r24 _ (List.mem_of_getElem? (i := 0) rfl)
theorem u_553 : Cond.instanceMethod yX10_lengthOf ∈ wsL_law := in_wsL_law_r24 _ (List.mem_of_getElem? (i := 1) rfl)
theorem u_554 : Cond.selects RX10 yX10_lengthOf yX10_lengthOf ∈ wsL_law := in_wsL_law_r24 _ (List.mem_of_getElem? (i := 2) rfl)
theorem u_555 : Cond.code yX10_lengthOf cX10_lengthOf 4 (some .int) ∈ wsL_law := in_wsL_law_r24 _ (List.mem_of_getElem? (i := 3) rfl)
theorem u_556 : Cond.methodLink RX10 174 yX10_low ∈ wsL_law := in_wsL_law_r24 _ (List.mem_of_getElem? (i := 4) rfl)
theorem u_557 : Cond.instanceMethod yX10_low ∈ wsL_law := in_wsL_law_r24 _ (List.mem_of_getElem? (i := 5) rfl)
theorem u_558 : Cond.selects RX10 yX10_low yX10_low ∈ wsL_law := in_wsL_law_r24 _ (List.mem_of_getElem? (i := 6) rfl)
theorem u_559 : Cond.code yX10_low cX10_low 6 (some .long) ∈ wsL_law := in_wsL_law_r24 _ (List.mem_of_getElem? (i := 7) rfl)
theorem u_560 : Cond.methodLink RX10 184 yX10_packets ∈ wsL_law := in_wsL_law_r24 _ (List.mem_of_getElem? (i := 8) rfl)
theorem u_561 : Cond.instanceMethod yX10_packets ∈ wsL_law := in_wsL_law_r24 _ (List.mem_of_getElem? (i := 9) rfl)
theorem u_562 : Cond.selects RX10 yX10_packets yX10_packets ∈ wsL_law := in_wsL_law_r24 _ (List.mem_of_getElem? (i := 10) rfl)
theorem u_563 : Cond.code yX10_packets cX10_packets 16 (some .boolean) ∈ wsL_law := in_wsL_law_r24 _ (List.mem_of_getElem? (i := 11) rfl)
theorem u_564 : Cond.methodLink RX10 164 yX10_ends ∈ wsL_law := in_wsL_law_r24 _ (List.mem_of_getElem? (i := 12) rfl)
theorem u_565 : Cond.instanceMethod yX10_ends ∈ wsL_law := in_wsL_law_r24 _ (List.mem_of_getElem? (i := 13) rfl)
theorem u_566 : Cond.selects RX10 yX10_ends yX10_ends ∈ wsL_law := in_wsL_law_r24 _ (List.mem_of_getElem? (i := 14) rfl)
theorem u_567 : Cond.code yX10_ends cX10_ends 2 (some .int) ∈ wsL_law := in_wsL_law_r24 _ (List.mem_of_getElem? (i := 15) rfl)
theorem u_568 : Cond.fieldLink RX10 129 "StreamRemuxerModel" "told" "I" ∈ wsL_law := in_wsL_law_r24 _ (List.mem_of_getElem? (i := 16) rfl)
theorem u_569 : Cond.methodLink RX10 132 yX10_takeList ∈ wsL_law := in_wsL_law_r24 _ (List.mem_of_getElem? (i := 17) rfl)
theorem u_570 : Cond.instanceMethod yX10_takeList ∈ wsL_law := in_wsL_law_r24 _ (List.mem_of_getElem? (i := 18) rfl)
theorem u_571 : Cond.selects RX10 yX10_takeList yX10_takeList ∈ wsL_law := in_wsL_law_r24 _ (List.mem_of_getElem? (i := 19) rfl)
theorem u_572 : Cond.code yX10_takeList cX10_takeList 2 none ∈ wsL_law := in_wsL_law_r24 _ (List.mem_of_getElem? (i := 20) rfl)
theorem u_573 : Cond.methodLink RL 45 yX9_readElements ∈ wsL_law := in_wsL_law_r24 _ (List.mem_of_getElem? (i := 21) rfl)
theorem u_574 : Cond.instanceMethod yX9_readElements ∈ wsL_law := in_wsL_law_r24 _ (List.mem_of_getElem? (i := 22) rfl)
theorem u_575 : Cond.selects RX9 yX9_readElements yX9_readElements ∈ wsL_law := in_wsL_law_r24 _ (List.mem_of_getElem? (i := 23) rfl)
theorem u_576 : Cond.code yX9_readElements cX9_readElements 2 (some .int) ∈ wsL_law := in_wsL_law_r25 _ (List.mem_of_getElem? (i := 0) rfl)
theorem u_577 : Cond.fieldLink RX9 141 "StreamRemuxer$ElementReader" "fault" "I" ∈ wsL_law := in_wsL_law_r25 _ (List.mem_of_getElem? (i := 1) rfl)
theorem u_578 : Cond.fieldLink RX9 142 "StreamRemuxer$ElementReader" "place" "I" ∈ wsL_law := in_wsL_law_r25 _ (List.mem_of_getElem? (i := 2) rfl)
theorem u_579 : Cond.fieldLink RX9 143 "StreamRemuxer$ElementReader" "clusters" "I" ∈ wsL_law := in_wsL_law_r25 _ (List.mem_of_getElem? (i := 3) rfl)
theorem u_580 : Cond.fieldLink RX9 146 "StreamRemuxer" "clustersRead" "I" ∈ wsL_law := in_wsL_law_r25 _ (List.mem_of_getElem? (i := 4) rfl)
theorem u_581 : Cond.fieldLink RX9 149 "StreamRemuxer$ElementReader" "blocks" "I" ∈ wsL_law := in_wsL_law_r25 _ (List.mem_of_getElem? (i := 5) rfl)
theorem u_582 : Cond.fieldLink RX9 152 "StreamRemuxer" "blocksRead" "I" ∈ wsL_law := in_wsL_law_r25 _ (List.mem_of_getElem? (i := 6) rfl)
theorem u_583 : Cond.methodLink RX9 140 yX1_read ∈ wsL_law := in_wsL_law_r25 _ (List.mem_of_getElem? (i := 7) rfl)
theorem u_584 : Cond.instanceMethod yX1_read ∈ wsL_law := in_wsL_law_r25 _ (List.mem_of_getElem? (i := 8) rfl)
theorem u_585 : Cond.selects RX1 yX1_read yX1_read ∈ wsL_law := in_wsL_law_r25 _ (List.mem_of_getElem? (i := 9) rfl)
theorem u_586 : Cond.code yX1_read cX1_read 7 none ∈ wsL_law := in_wsL_law_r25 _ (List.mem_of_getElem? (i := 10) rfl)
theorem u_587 : Cond.fieldLink RX1 24 "StreamRemuxer$ElementReader" "file" "LStreamRemuxer$Row;" ∈ wsL_law := in_wsL_law_r25 _ (List.mem_of_getElem? (i := 11) rfl)
theorem u_588 : Cond.fieldLink RX1 28 "StreamRemuxer$ElementReader" "target" "LStreamRemuxer$PacketList;" ∈ wsL_law := in_wsL_law_r25 _ (List.mem_of_getElem? (i := 12) rfl)
theorem u_589 : Cond.fieldLink RX1 32 "StreamRemuxer$ElementReader" "fault" "I" ∈ wsL_law := in_wsL_law_r25 _ (List.mem_of_getElem? (i := 13) rfl)
theorem u_590 : Cond.fieldLink RX1 36 "StreamRemuxer$ElementReader" "place" "I" ∈ wsL_law := in_wsL_law_r25 _ (List.mem_of_getElem? (i := 14) rfl)
theorem u_591 : Cond.fieldLink RX1 39 "StreamRemuxer$ElementReader" "clusters" "I" ∈ wsL_law := in_wsL_law_r25 _ (List.mem_of_getElem? (i := 15) rfl)
theorem u_592 : Cond.fieldLink RX1 42 "StreamRemuxer$ElementReader" "blocks" "I" ∈ wsL_law := in_wsL_law_r25 _ (List.mem_of_getElem? (i := 16) rfl)
theorem u_593 : Cond.constantLong RX1 45 (-1) ∈ wsL_law := in_wsL_law_r25 _ (List.mem_of_getElem? (i := 17) rfl)
theorem u_594 : Cond.fieldLink RX1 47 "StreamRemuxer$ElementReader" "trackNumber" "J" ∈ wsL_law := in_wsL_law_r25 _ (List.mem_of_getElem? (i := 18) rfl)
theorem u_595 : Cond.fieldLink RX1 51 "StreamRemuxer$ElementReader" "clusterTime" "J" ∈ wsL_law := in_wsL_law_r25 _ (List.mem_of_getElem? (i := 19) rfl)
theorem u_596 : Cond.fieldLink RX1 54 "StreamRemuxer$ElementReader" "depth" "I" ∈ wsL_law := in_wsL_law_r25 _ (List.mem_of_getElem? (i := 20) rfl)
theorem u_597 : Cond.fieldLink RX1 61 "StreamRemuxer$Level" "end" "I" ∈ wsL_law := in_wsL_law_r25 _ (List.mem_of_getElem? (i := 21) rfl)
theorem u_598 : Cond.methodLink RX1 57 yX1_openLevel ∈ wsL_law := in_wsL_law_r25 _ (List.mem_of_getElem? (i := 22) rfl)
theorem u_599 : Cond.instanceMethod yX1_openLevel ∈ wsL_law := in_wsL_law_r25 _ (List.mem_of_getElem? (i := 23) rfl)
theorem u_600 : Cond.selects RX1 yX1_openLevel yX1_openLevel ∈ wsL_law := in_wsL_law_r26 _ (List.mem_of_getElem? (i := 0) rfl)
theorem u_601 : Cond.code yX1_openLevel cX1_openLevel 6 (some .int) ∈ wsL_law := in_wsL_law_r26 _ (List.mem_of_getElem? (i := 1) rfl)
theorem u_602 : Cond.fieldLink RX1 75 "StreamRemuxer$Level" "id" "I" ∈ wsL_law := in_wsL_law_r26 _ (List.mem_of_getElem? (i := 2) rfl)
theorem u_603 : Cond.fieldLink RX1 78 "StreamRemuxer$Level" "missingPlace" "I" ∈ wsL_law := in_wsL_law_r26 _ (List.mem_of_getElem? (i := 3) rfl)
theorem u_604 : Cond.fieldLink RX1 81 "StreamRemuxer$Level" "seen" "I" ∈ wsL_law := in_wsL_law_r26 _ (List.mem_of_getElem? (i := 4) rfl)
theorem u_605 : Cond.fieldLink RX1 84 "StreamRemuxer$Level" "tillCluster" "Z" ∈ wsL_law := in_wsL_law_r26 _ (List.mem_of_getElem? (i := 5) rfl)
theorem u_606 : Cond.constant RX1 88 (524531317) ∈ wsL_law := in_wsL_law_r26 _ (List.mem_of_getElem? (i := 6) rfl)
theorem u_607 : Cond.fieldLink RX1 89 "StreamRemuxer$ElementReader" "bodySize" "J" ∈ wsL_law := in_wsL_law_r26 _ (List.mem_of_getElem? (i := 7) rfl)
theorem u_608 : Cond.methodLink RX1 71 yX1_fail ∈ wsL_law := in_wsL_law_r26 _ (List.mem_of_getElem? (i := 8) rfl)
theorem u_609 : Cond.instanceMethod yX1_fail ∈ wsL_law := in_wsL_law_r26 _ (List.mem_of_getElem? (i := 9) rfl)
theorem u_610 : Cond.selects RX1 yX1_fail yX1_fail ∈ wsL_law := in_wsL_law_r26 _ (List.mem_of_getElem? (i := 10) rfl)
theorem u_611 : Cond.code yX1_fail cX1_fail 3 (some .int) ∈ wsL_law := in_wsL_law_r26 _ (List.mem_of_getElem? (i := 11) rfl)
theorem u_612 : Cond.methodLink RX1 64 yX1_readElement ∈ wsL_law := in_wsL_law_r26 _ (List.mem_of_getElem? (i := 12) rfl)
theorem u_613 : Cond.instanceMethod yX1_readElement ∈ wsL_law := in_wsL_law_r26 _ (List.mem_of_getElem? (i := 13) rfl)
theorem u_614 : Cond.selects RX1 yX1_readElement yX1_readElement ∈ wsL_law := in_wsL_law_r26 _ (List.mem_of_getElem? (i := 14) rfl)
theorem u_615 : Cond.code yX1_readElement cX1_readElement 7 (some .int) ∈ wsL_law := in_wsL_law_r26 _ (List.mem_of_getElem? (i := 15) rfl)
theorem u_616 : Cond.methodLink RX1 96 yX1_readId ∈ wsL_law := in_wsL_law_r26 _ (List.mem_of_getElem? (i := 16) rfl)
theorem u_617 : Cond.instanceMethod yX1_readId ∈ wsL_law := in_wsL_law_r26 _ (List.mem_of_getElem? (i := 17) rfl)
theorem u_618 : Cond.selects RX1 yX1_readId yX1_readId ∈ wsL_law := in_wsL_law_r26 _ (List.mem_of_getElem? (i := 18) rfl)
theorem u_619 : Cond.code yX1_readId cX1_readId 4 (some .int) ∈ wsL_law := in_wsL_law_r26 _ (List.mem_of_getElem? (i := 19) rfl)
theorem u_620 : Cond.methodLink RX1 105 yX8_at ∈ wsL_law := in_wsL_law_r26 _ (List.mem_of_getElem? (i := 20) rfl)
theorem u_621 : Cond.methodLink RX1 111 yX1_markedWidth ∈ wsL_law := in_wsL_law_r26 _ (List.mem_of_getElem? (i := 21) rfl)
theorem u_622 : Cond.static yX1_markedWidth ∈ wsL_law := in_wsL_law_r26 _ (List.mem_of_getElem? (i := 22) rfl)
theorem u_623 : Cond.code yX1_markedWidth cX1_markedWidth 2 (some .int) ∈ wsL_law := in_wsL_law_r26 _ (List.mem_of_getElem? (i := 23) rfl)
theorem u_624 : Cond.methodLink RX1 143 yX8_highFirst ∈ wsL_law := in_wsL_law_r27 _ (List.mem_of_getElem? (i := 0) rfl)
theorem u_625 : Cond.methodLink RX1 68 yX1_closeLevel ∈ wsL_law := in_wsL_law_r27 _ (List.mem_of_getElem? (i := 1) rfl)
theorem u_626 : Cond.instanceMethod yX1_closeLevel ∈ wsL_law := in_wsL_law_r27 _ (List.mem_of_getElem? (i := 2) rfl)
theorem u_627 : Cond.selects RX1 yX1_closeLevel yX1_closeLevel ∈ wsL_law := in_wsL_law_r27 _ (List.mem_of_getElem? (i := 3) rfl)
theorem u_628 : Cond.code yX1_closeLevel cX1_closeLevel 3 (some .int) ∈ wsL_law := in_wsL_law_r27 _ (List.mem_of_getElem? (i := 4) rfl)
theorem u_629 : Cond.methodLink RX1 92 yX1_lacksSome ∈ wsL_law := in_wsL_law_r27 _ (List.mem_of_getElem? (i := 5) rfl)
theorem u_630 : Cond.static yX1_lacksSome ∈ wsL_law := in_wsL_law_r27 _ (List.mem_of_getElem? (i := 6) rfl)
theorem u_631 : Cond.code yX1_lacksSome cX1_lacksSome 4 (some .boolean) ∈ wsL_law := in_wsL_law_r27 _ (List.mem_of_getElem? (i := 7) rfl)
theorem u_632 : Cond.constantLong RX1 134 (2) ∈ wsL_law := in_wsL_law_r27 _ (List.mem_of_getElem? (i := 8) rfl)
theorem u_633 : Cond.methodLink RX1 117 yX1_column ∈ wsL_law := in_wsL_law_r27 _ (List.mem_of_getElem? (i := 9) rfl)
theorem u_634 : Cond.static yX1_column ∈ wsL_law := in_wsL_law_r27 _ (List.mem_of_getElem? (i := 10) rfl)
theorem u_635 : Cond.code yX1_column cX1_column 3 (some .long) ∈ wsL_law := in_wsL_law_r27 _ (List.mem_of_getElem? (i := 11) rfl)
theorem u_636 : Cond.fieldLink RX1 130 "StreamRemuxer$ElementReader" "TOLD" "[J" ∈ wsL_law := in_wsL_law_r27 _ (List.mem_of_getElem? (i := 12) rfl)
theorem u_637 : Cond.methodLink RX1 99 yX1_rowOf ∈ wsL_law := in_wsL_law_r27 _ (List.mem_of_getElem? (i := 13) rfl)
theorem u_638 : Cond.static yX1_rowOf ∈ wsL_law := in_wsL_law_r27 _ (List.mem_of_getElem? (i := 14) rfl)
theorem u_639 : Cond.code yX1_rowOf cX1_rowOf 5 (some .int) ∈ wsL_law := in_wsL_law_r27 _ (List.mem_of_getElem? (i := 15) rfl)
theorem u_640 : Cond.methodLink RX1 102 yX1_mayStand ∈ wsL_law := in_wsL_law_r27 _ (List.mem_of_getElem? (i := 16) rfl)
theorem u_641 : Cond.static yX1_mayStand ∈ wsL_law := in_wsL_law_r27 _ (List.mem_of_getElem? (i := 17) rfl)
theorem u_642 : Cond.code yX1_mayStand cX1_mayStand 2 (some .boolean) ∈ wsL_law := in_wsL_law_r27 _ (List.mem_of_getElem? (i := 18) rfl)
theorem u_643 : Cond.constant RX1 136 (408125543) ∈ wsL_law := in_wsL_law_r27 _ (List.mem_of_getElem? (i := 19) rfl)
theorem u_644 : Cond.constant RX1 141 (440786851) ∈ wsL_law := in_wsL_law_r27 _ (List.mem_of_getElem? (i := 20) rfl)
theorem u_645 : Cond.constant RX1 142 (374648427) ∈ wsL_law := in_wsL_law_r27 _ (List.mem_of_getElem? (i := 21) rfl)
theorem u_646 : Cond.methodLink RX1 137 yX1_isSeen ∈ wsL_law := in_wsL_law_r27 _ (List.mem_of_getElem? (i := 22) rfl)
theorem u_647 : Cond.static yX1_isSeen ∈ wsL_law := in_wsL_law_r27 _ (List.mem_of_getElem? (i := 23) rfl)
theorem u_648 : Cond.code yX1_isSeen cX1_isSeen 4 (some .boolean) ∈ wsL_law := in_wsL_law_r28 _ (List.mem_of_getElem? (i := 0) rfl)
theorem u_649 : Cond.methodLink RX1 114 yX1_readSize ∈ wsL_law := in_wsL_law_r28 _ (List.mem_of_getElem? (i := 1) rfl)
theorem u_650 : Cond.instanceMethod yX1_readSize ∈ wsL_law := in_wsL_law_r28 _ (List.mem_of_getElem? (i := 2) rfl)
theorem u_651 : Cond.selects RX1 yX1_readSize yX1_readSize ∈ wsL_law := in_wsL_law_r28 _ (List.mem_of_getElem? (i := 3) rfl)
theorem u_652 : Cond.code yX1_readSize cX1_readSize 7 (some .int) ∈ wsL_law := in_wsL_law_r28 _ (List.mem_of_getElem? (i := 4) rfl)
theorem u_653 : Cond.constantLong RX1 156 (2147483647) ∈ wsL_law := in_wsL_law_r28 _ (List.mem_of_getElem? (i := 5) rfl)
theorem u_654 : Cond.methodLink RX1 150 yX1_sizeWidth ∈ wsL_law := in_wsL_law_r28 _ (List.mem_of_getElem? (i := 6) rfl)
theorem u_655 : Cond.instanceMethod yX1_sizeWidth ∈ wsL_law := in_wsL_law_r28 _ (List.mem_of_getElem? (i := 7) rfl)
theorem u_656 : Cond.selects RX1 yX1_sizeWidth yX1_sizeWidth ∈ wsL_law := in_wsL_law_r28 _ (List.mem_of_getElem? (i := 8) rfl)
theorem u_657 : Cond.code yX1_sizeWidth cX1_sizeWidth 4 (some .int) ∈ wsL_law := in_wsL_law_r28 _ (List.mem_of_getElem? (i := 9) rfl)
theorem u_658 : Cond.methodLink RX1 153 yX1_sizeNumber ∈ wsL_law := in_wsL_law_r28 _ (List.mem_of_getElem? (i := 10) rfl)
theorem u_659 : Cond.instanceMethod yX1_sizeNumber ∈ wsL_law := in_wsL_law_r28 _ (List.mem_of_getElem? (i := 11) rfl)
theorem u_660 : Cond.selects RX1 yX1_sizeNumber yX1_sizeNumber ∈ wsL_law := in_wsL_law_r28 _ (List.mem_of_getElem? (i := 12) rfl)
theorem u_661 : Cond.code yX1_sizeNumber cX1_sizeNumber 6 (some .long) ∈ wsL_law := in_wsL_law_r28 _ (List.mem_of_getElem? (i := 13) rfl)
theorem u_662 : Cond.methodLink RX1 146 yX0_highestSize ∈ wsL_law := in_wsL_law_r28 _ (List.mem_of_getElem? (i := 14) rfl)
theorem u_663 : Cond.methodLink RX1 121 yX1_readUint ∈ wsL_law := in_wsL_law_r28 _ (List.mem_of_getElem? (i := 15) rfl)
theorem u_664 : Cond.instanceMethod yX1_readUint ∈ wsL_law := in_wsL_law_r28 _ (List.mem_of_getElem? (i := 16) rfl)
theorem u_665 : Cond.selects RX1 yX1_readUint yX1_readUint ∈ wsL_law := in_wsL_law_r28 _ (List.mem_of_getElem? (i := 17) rfl)
theorem u_666 : Cond.code yX1_readUint cX1_readUint 7 (some .int) ∈ wsL_law := in_wsL_law_r28 _ (List.mem_of_getElem? (i := 18) rfl)
theorem u_667 : Cond.constantLong RX1 158 (215) ∈ wsL_law := in_wsL_law_r28 _ (List.mem_of_getElem? (i := 19) rfl)
theorem u_668 : Cond.constantLong RX1 160 (231) ∈ wsL_law := in_wsL_law_r28 _ (List.mem_of_getElem? (i := 20) rfl)
theorem u_669 : Cond.methodLink RX1 124 yX1_isDocumentName ∈ wsL_law := in_wsL_law_r28 _ (List.mem_of_getElem? (i := 21) rfl)
theorem u_670 : Cond.instanceMethod yX1_isDocumentName ∈ wsL_law := in_wsL_law_r28 _ (List.mem_of_getElem? (i := 22) rfl)
theorem u_671 : Cond.selects RX1 yX1_isDocumentName yX1_isDocumentName ∈ wsL_law := in_wsL_law_r28 _ (List.mem_of_getElem? (i := 23) rfl)
theorem u_672 : Cond.code yX1_isDocumentName cX1_isDocumentName 4 (some .boolean) ∈ wsL_law := in_wsL_law_r29 _ (List.mem_of_getElem? (i := 0) rfl)
theorem u_673 : Cond.methodLink RX1 164 yJ0_length_8abf5 ∈ wsL_law := in_wsL_law_r29 _ (List.mem_of_getElem? (i := 1) rfl)
theorem u_674 : Cond.instanceMethod yJ0_length_8abf5 ∈ wsL_law := in_wsL_law_r29 _ (List.mem_of_getElem? (i := 2) rfl)
theorem u_675 : Cond.selects RJ0 yJ0_length_8abf5 yJ0_length_8abf5 ∈ wsL_law := in_wsL_law_r29 _ (List.mem_of_getElem? (i := 3) rfl)
theorem u_676 : Cond.initialized RJ0 ∈ wsL_law := in_wsL_law_r29 _ (List.mem_of_getElem? (i := 4) rfl)
theorem u_677 : Cond.code yJ0_length_8abf5 cJ0_length_8abf5 1 (some .int) ∈ wsL_law := in_wsL_law_r29 _ (List.mem_of_getElem? (i := 5) rfl)
theorem u_678 : Cond.fieldLink RJ0 9 "java/lang/String" "value" "[B" ∈ wsL_law := in_wsL_law_r29 _ (List.mem_of_getElem? (i := 6) rfl)
theorem u_679 : Cond.methodLink RJ0 335 yJ0_coder_7d493 ∈ wsL_law := in_wsL_law_r29 _ (List.mem_of_getElem? (i := 7) rfl)
theorem u_680 : Cond.instanceMethod yJ0_coder_7d493 ∈ wsL_law := in_wsL_law_r29 _ (List.mem_of_getElem? (i := 8) rfl)
theorem u_681 : Cond.selects RJ0 yJ0_coder_7d493 yJ0_coder_7d493 ∈ wsL_law := in_wsL_law_r29 _ (List.mem_of_getElem? (i := 9) rfl)
theorem u_682 : Cond.code yJ0_coder_7d493 cJ0_coder_7d493 1 (some .byte) ∈ wsL_law := in_wsL_law_r29 _ (List.mem_of_getElem? (i := 10) rfl)
theorem u_683 : Cond.fieldLink RJ0 38 "java/lang/String" "COMPACT_STRINGS" "Z" ∈ wsL_law := in_wsL_law_r29 _ (List.mem_of_getElem? (i := 11) rfl)
theorem u_684 : Cond.fieldLink RJ0 15 "java/lang/String" "coder" "B" ∈ wsL_law := in_wsL_law_r29 _ (List.mem_of_getElem? (i := 12) rfl)
theorem u_685 : Cond.methodLink RX1 170 yJ0_charAt_5068e ∈ wsL_law := in_wsL_law_r29 _ (List.mem_of_getElem? (i := 13) rfl)
theorem u_686 : Cond.instanceMethod yJ0_charAt_5068e ∈ wsL_law := in_wsL_law_r29 _ (List.mem_of_getElem? (i := 14) rfl)
theorem u_687 : Cond.selects RJ0 yJ0_charAt_5068e yJ0_charAt_5068e ∈ wsL_law := in_wsL_law_r29 _ (List.mem_of_getElem? (i := 15) rfl)
theorem u_688 : Cond.code yJ0_charAt_5068e cJ0_charAt_5068e 2 (some .char) ∈ wsL_law := in_wsL_law_r29 _ (List.mem_of_getElem? (i := 16) rfl)
theorem u_689 : Cond.methodLink RJ0 492 yJ0_isLatin1_aae02 ∈ wsL_law := in_wsL_law_r29 _ (List.mem_of_getElem? (i := 17) rfl)
theorem u_690 : Cond.instanceMethod yJ0_isLatin1_aae02 ∈ wsL_law := in_wsL_law_r29 _ (List.mem_of_getElem? (i := 18) rfl)
theorem u_691 : Cond.selects RJ0 yJ0_isLatin1_aae02 yJ0_isLatin1_aae02 ∈ wsL_law := in_wsL_law_r29 _ (List.mem_of_getElem? (i := 19) rfl)
theorem u_692 : Cond.code yJ0_isLatin1_aae02 cJ0_isLatin1_aae02 1 (some .boolean) ∈ wsL_law := in_wsL_law_r29 _ (List.mem_of_getElem? (i := 20) rfl)
theorem u_693 : Cond.methodLink RJ0 495 yJ1_charAt_3b067 ∈ wsL_law := in_wsL_law_r29 _ (List.mem_of_getElem? (i := 21) rfl)
theorem u_694 : Cond.static yJ1_charAt_3b067 ∈ wsL_law := in_wsL_law_r29 _ (List.mem_of_getElem? (i := 22) rfl)
theorem u_695 : Cond.initialized RJ1 ∈ wsL_law := in_wsL_law_r29 _ (List.mem_of_getElem? (i := 23) rfl)
theorem u_696 : Cond.code yJ1_charAt_3b067 cJ1_charAt_3b067 2 (some .char) ∈ wsL_law := in_wsL_law_r30 _ (List.mem_of_getElem? (i := 0) rfl)
theorem u_697 : Cond.methodLink RJ1 9 yJ0_checkIndex_df160 ∈ wsL_law := in_wsL_law_r30 _ (List.mem_of_getElem? (i := 1) rfl)
theorem u_698 : Cond.static yJ0_checkIndex_df160 ∈ wsL_law := in_wsL_law_r30 _ (List.mem_of_getElem? (i := 2) rfl)
theorem u_699 : Cond.code yJ0_checkIndex_df160 cJ0_checkIndex_df160 2 none ∈ wsL_law := in_wsL_law_r30 _ (List.mem_of_getElem? (i := 3) rfl)
theorem u_700 : Cond.fieldLink RJ0 1053 "jdk/internal/util/Preconditions" "SIOOBE_FORMATTER" "Ljava/util/function/BiFunction;" ∈ wsL_law := in_wsL_law_r30 _ (List.mem_of_getElem? (i := 4) rfl)
theorem u_701 : Cond.methodLink RJ0 1059 yJ3_checkIndex_8e157 ∈ wsL_law := in_wsL_law_r30 _ (List.mem_of_getElem? (i := 5) rfl)
theorem u_702 : Cond.static yJ3_checkIndex_8e157 ∈ wsL_law := in_wsL_law_r30 _ (List.mem_of_getElem? (i := 6) rfl)
theorem u_703 : Cond.initialized RJ3 ∈ wsL_law := in_wsL_law_r30 _ (List.mem_of_getElem? (i := 7) rfl)
theorem u_704 : Cond.code yJ3_checkIndex_8e157 cJ3_checkIndex_8e157 3 (some .int) ∈ wsL_law := in_wsL_law_r30 _ (List.mem_of_getElem? (i := 8) rfl)
theorem u_705 : Cond.methodLink RJ0 498 yJ2_charAt_3b067 ∈ wsL_law := in_wsL_law_r30 _ (List.mem_of_getElem? (i := 9) rfl)
theorem u_706 : Cond.static yJ2_charAt_3b067 ∈ wsL_law := in_wsL_law_r30 _ (List.mem_of_getElem? (i := 10) rfl)
theorem u_707 : Cond.initialized RJ2 ∈ wsL_law := in_wsL_law_r30 _ (List.mem_of_getElem? (i := 11) rfl)
theorem u_708 : Cond.code yJ2_charAt_3b067 cJ2_charAt_3b067 2 (some .char) ∈ wsL_law := in_wsL_law_r30 _ (List.mem_of_getElem? (i := 12) rfl)
theorem u_709 : Cond.methodLink RJ2 67 yJ2_checkIndex_2214a ∈ wsL_law := in_wsL_law_r30 _ (List.mem_of_getElem? (i := 13) rfl)
theorem u_710 : Cond.static yJ2_checkIndex_2214a ∈ wsL_law := in_wsL_law_r30 _ (List.mem_of_getElem? (i := 14) rfl)
theorem u_711 : Cond.code yJ2_checkIndex_2214a cJ2_checkIndex_2214a 2 none ∈ wsL_law := in_wsL_law_r30 _ (List.mem_of_getElem? (i := 15) rfl)
theorem u_712 : Cond.methodLink RJ2 48 yJ2_length_9d52b ∈ wsL_law := in_wsL_law_r30 _ (List.mem_of_getElem? (i := 16) rfl)
theorem u_713 : Cond.static yJ2_length_9d52b ∈ wsL_law := in_wsL_law_r30 _ (List.mem_of_getElem? (i := 17) rfl)
theorem u_714 : Cond.code yJ2_length_9d52b cJ2_length_9d52b 1 (some .int) ∈ wsL_law := in_wsL_law_r30 _ (List.mem_of_getElem? (i := 18) rfl)
theorem u_715 : Cond.methodLink RJ2 414 yJ0_checkIndex_df160 ∈ wsL_law := in_wsL_law_r30 _ (List.mem_of_getElem? (i := 19) rfl)
theorem u_716 : Cond.methodLink RJ2 71 yJ2_getChar_3b067 ∈ wsL_law := in_wsL_law_r30 _ (List.mem_of_getElem? (i := 20) rfl)
theorem u_717 : Cond.static yJ2_getChar_3b067 ∈ wsL_law := in_wsL_law_r30 _ (List.mem_of_getElem? (i := 21) rfl)
theorem u_718 : Cond.code yJ2_getChar_3b067 cJ2_getChar_3b067 2 (some .char) ∈ wsL_law := in_wsL_law_r30 _ (List.mem_of_getElem? (i := 22) rfl)
theorem u_719 : Cond.fieldLink RJ2 44 "java/lang/StringUTF16" "$assertionsDisabled" "Z" ∈ wsL_law := in_wsL_law_r30 _ (List.mem_of_getElem? (i := 23) rfl)
theorem u_720 : Cond.fieldLink RJ2 59 "java/lang/StringUTF16" "HI_BYTE_SHIFT" "I" ∈ wsL_law := in_wsL_law_r31 _ (List.mem_of_getElem? (i := 0) rfl)
theorem u_721 : Cond.fieldLink RJ2 63 "java/lang/StringUTF16" "LO_BYTE_SHIFT" "I" ∈ wsL_law := in_wsL_law_r31 _ (List.mem_of_getElem? (i := 1) rfl)
theorem u_722 : Cond.methodLink RX1 127 yX1_readBlock ∈ wsL_law := in_wsL_law_r31 _ (List.mem_of_getElem? (i := 2) rfl)
theorem u_723 : Cond.instanceMethod yX1_readBlock ∈ wsL_law := in_wsL_law_r31 _ (List.mem_of_getElem? (i := 3) rfl)
theorem u_724 : Cond.selects RX1 yX1_readBlock yX1_readBlock ∈ wsL_law := in_wsL_law_r31 _ (List.mem_of_getElem? (i := 4) rfl)
theorem u_725 : Cond.code yX1_readBlock cX1_readBlock 11 (some .int) ∈ wsL_law := in_wsL_law_r31 _ (List.mem_of_getElem? (i := 5) rfl)
theorem u_726 : Cond.constantLong RX1 174 (1099511627775) ∈ wsL_law := in_wsL_law_r31 _ (List.mem_of_getElem? (i := 6) rfl)
theorem u_727 : Cond.fieldLink RX1 180 "StreamRemuxer$ElementReader" "lacingAt" "I" ∈ wsL_law := in_wsL_law_r31 _ (List.mem_of_getElem? (i := 7) rfl)
theorem u_728 : Cond.methodLink RX1 176 yX1_readLacing ∈ wsL_law := in_wsL_law_r31 _ (List.mem_of_getElem? (i := 8) rfl)
theorem u_729 : Cond.instanceMethod yX1_readLacing ∈ wsL_law := in_wsL_law_r31 _ (List.mem_of_getElem? (i := 9) rfl)
theorem u_730 : Cond.selects RX1 yX1_readLacing yX1_readLacing ∈ wsL_law := in_wsL_law_r31 _ (List.mem_of_getElem? (i := 10) rfl)
theorem u_731 : Cond.code yX1_readLacing cX1_readLacing 10 (some .int) ∈ wsL_law := in_wsL_law_r31 _ (List.mem_of_getElem? (i := 11) rfl)
theorem u_732 : Cond.methodLink RX1 203 yX1_shareAlike ∈ wsL_law := in_wsL_law_r31 _ (List.mem_of_getElem? (i := 12) rfl)
theorem u_733 : Cond.instanceMethod yX1_shareAlike ∈ wsL_law := in_wsL_law_r31 _ (List.mem_of_getElem? (i := 13) rfl)
theorem u_734 : Cond.selects RX1 yX1_shareAlike yX1_shareAlike ∈ wsL_law := in_wsL_law_r31 _ (List.mem_of_getElem? (i := 14) rfl)
theorem u_735 : Cond.code yX1_shareAlike cX1_shareAlike 4 (some .int) ∈ wsL_law := in_wsL_law_r31 _ (List.mem_of_getElem? (i := 15) rfl)
theorem u_736 : Cond.methodLink RX1 206 yX1_readSummedSize ∈ wsL_law := in_wsL_law_r31 _ (List.mem_of_getElem? (i := 16) rfl)
theorem u_737 : Cond.instanceMethod yX1_readSummedSize ∈ wsL_law := in_wsL_law_r31 _ (List.mem_of_getElem? (i := 17) rfl)
theorem u_738 : Cond.selects RX1 yX1_readSummedSize yX1_readSummedSize ∈ wsL_law := in_wsL_law_r31 _ (List.mem_of_getElem? (i := 18) rfl)
theorem u_739 : Cond.code yX1_readSummedSize cX1_readSummedSize 5 (some .long) ∈ wsL_law := in_wsL_law_r31 _ (List.mem_of_getElem? (i := 19) rfl)
theorem u_740 : Cond.methodLink RX1 209 yX1_readSizeOrDifference ∈ wsL_law := in_wsL_law_r31 _ (List.mem_of_getElem? (i := 20) rfl)
theorem u_741 : Cond.instanceMethod yX1_readSizeOrDifference ∈ wsL_law := in_wsL_law_r31 _ (List.mem_of_getElem? (i := 21) rfl)
theorem u_742 : Cond.selects RX1 yX1_readSizeOrDifference yX1_readSizeOrDifference ∈ wsL_law := in_wsL_law_r31 _ (List.mem_of_getElem? (i := 22) rfl)
theorem u_743 : Cond.code yX1_readSizeOrDifference cX1_readSizeOrDifference 6 (some .long) ∈ wsL_law := in_wsL_law_r31 _ (List.mem_of_getElem? (i := 23) rfl)
theorem u_744 : Cond.methodLink RX1 212 yX0_differenceShift ∈ wsL_law := in_wsL_law_r32 _ (List.mem_of_getElem? (i := 0) rfl)
theorem u_745 : Cond.methodLink RX1 183 yX4_hasRoom ∈ wsL_law := in_wsL_law_r32 _ (List.mem_of_getElem? (i := 1) rfl)
theorem u_746 : Cond.methodLink RX1 188 yX1_takePackets ∈ wsL_law := in_wsL_law_r32 _ (List.mem_of_getElem? (i := 2) rfl)
theorem u_747 : Cond.instanceMethod yX1_takePackets ∈ wsL_law := in_wsL_law_r32 _ (List.mem_of_getElem? (i := 3) rfl)
theorem u_748 : Cond.selects RX1 yX1_takePackets yX1_takePackets ∈ wsL_law := in_wsL_law_r32 _ (List.mem_of_getElem? (i := 4) rfl)
theorem u_749 : Cond.code yX1_takePackets cX1_takePackets 6 none ∈ wsL_law := in_wsL_law_r32 _ (List.mem_of_getElem? (i := 5) rfl)
theorem u_750 : Cond.fieldLink RX1 192 "StreamRemuxer$PacketList" "bytes" "LStreamRemuxer$Row;" ∈ wsL_law := in_wsL_law_r32 _ (List.mem_of_getElem? (i := 6) rfl)
theorem u_751 : Cond.methodLink RX1 195 yX8_addPart ∈ wsL_law := in_wsL_law_r32 _ (List.mem_of_getElem? (i := 7) rfl)
theorem u_752 : Cond.methodLink RX1 199 yX4_endPacket ∈ wsL_law := in_wsL_law_r32 _ (List.mem_of_getElem? (i := 8) rfl)
theorem u_753 : Cond.methodLink RL 48 yX10_readElements ∈ wsL_law := in_wsL_law_r32 _ (List.mem_of_getElem? (i := 9) rfl)
theorem u_754 : Cond.instanceMethod yX10_readElements ∈ wsL_law := in_wsL_law_r32 _ (List.mem_of_getElem? (i := 10) rfl)
theorem u_755 : Cond.selects RX10 yX10_readElements yX10_readElements ∈ wsL_law := in_wsL_law_r32 _ (List.mem_of_getElem? (i := 11) rfl)
theorem u_756 : Cond.code yX10_readElements cX10_readElements 3 (some .int) ∈ wsL_law := in_wsL_law_r32 _ (List.mem_of_getElem? (i := 12) rfl)
theorem u_757 : Cond.fieldLink RX10 243 "StreamRemuxerModel" "clusters" "I" ∈ wsL_law := in_wsL_law_r32 _ (List.mem_of_getElem? (i := 13) rfl)
theorem u_758 : Cond.fieldLink RX10 291 "StreamRemuxerModel" "blocks" "I" ∈ wsL_law := in_wsL_law_r32 _ (List.mem_of_getElem? (i := 14) rfl)
theorem u_759 : Cond.fieldLink RX10 300 "StreamRemuxerModel" "clusterCount" "I" ∈ wsL_law := in_wsL_law_r32 _ (List.mem_of_getElem? (i := 15) rfl)
theorem u_760 : Cond.fieldLink RX10 303 "StreamRemuxerModel" "blockCount" "I" ∈ wsL_law := in_wsL_law_r32 _ (List.mem_of_getElem? (i := 16) rfl)
theorem u_761 : Cond.methodLink RX10 246 yX10_elements ∈ wsL_law := in_wsL_law_r32 _ (List.mem_of_getElem? (i := 17) rfl)
theorem u_762 : Cond.instanceMethod yX10_elements ∈ wsL_law := in_wsL_law_r32 _ (List.mem_of_getElem? (i := 18) rfl)
theorem u_763 : Cond.selects RX10 yX10_elements yX10_elements ∈ wsL_law := in_wsL_law_r32 _ (List.mem_of_getElem? (i := 19) rfl)
theorem u_764 : Cond.code yX10_elements cX10_elements 12 (some .boolean) ∈ wsL_law := in_wsL_law_r32 _ (List.mem_of_getElem? (i := 20) rfl)
theorem u_765 : Cond.fieldLink RX10 191 "StreamRemuxerModel" "id" "I" ∈ wsL_law := in_wsL_law_r32 _ (List.mem_of_getElem? (i := 21) rfl)
theorem u_766 : Cond.constant RX10 207 (524531317) ∈ wsL_law := in_wsL_law_r32 _ (List.mem_of_getElem? (i := 22) rfl)
theorem u_767 : Cond.fieldLink RX10 210 "StreamRemuxerModel" "to" "I" ∈ wsL_law := in_wsL_law_r32 _ (List.mem_of_getElem? (i := 23) rfl)
theorem u_768 : Cond.fieldLink RX10 203 "StreamRemuxerModel" "unknown" "Z" ∈ wsL_law := in_wsL_law_r33 _ (List.mem_of_getElem? (i := 0) rfl)
theorem u_769 : Cond.fieldLink RX10 240 "StreamRemuxerModel" "hasTime" "Z" ∈ wsL_law := in_wsL_law_r33 _ (List.mem_of_getElem? (i := 1) rfl)
theorem u_770 : Cond.fieldLink RX10 194 "StreamRemuxerModel" "from" "I" ∈ wsL_law := in_wsL_law_r33 _ (List.mem_of_getElem? (i := 2) rfl)
theorem u_771 : Cond.fieldLink RX10 250 "StreamRemuxerModel" "over" "I" ∈ wsL_law := in_wsL_law_r33 _ (List.mem_of_getElem? (i := 3) rfl)
theorem u_772 : Cond.methodLink RX10 220 yX10_isCluster ∈ wsL_law := in_wsL_law_r33 _ (List.mem_of_getElem? (i := 4) rfl)
theorem u_773 : Cond.instanceMethod yX10_isCluster ∈ wsL_law := in_wsL_law_r33 _ (List.mem_of_getElem? (i := 5) rfl)
theorem u_774 : Cond.selects RX10 yX10_isCluster yX10_isCluster ∈ wsL_law := in_wsL_law_r33 _ (List.mem_of_getElem? (i := 6) rfl)
theorem u_775 : Cond.code yX10_isCluster cX10_isCluster 3 (some .boolean) ∈ wsL_law := in_wsL_law_r33 _ (List.mem_of_getElem? (i := 7) rfl)
theorem u_776 : Cond.methodLink RX10 223 yX10_name ∈ wsL_law := in_wsL_law_r33 _ (List.mem_of_getElem? (i := 8) rfl)
theorem u_777 : Cond.instanceMethod yX10_name ∈ wsL_law := in_wsL_law_r33 _ (List.mem_of_getElem? (i := 9) rfl)
theorem u_778 : Cond.selects RX10 yX10_name yX10_name ∈ wsL_law := in_wsL_law_r33 _ (List.mem_of_getElem? (i := 10) rfl)
theorem u_779 : Cond.code yX10_name cX10_name 8 (some .boolean) ∈ wsL_law := in_wsL_law_r33 _ (List.mem_of_getElem? (i := 11) rfl)
theorem u_780 : Cond.methodLink RX10 188 yX10_lengthBy ∈ wsL_law := in_wsL_law_r33 _ (List.mem_of_getElem? (i := 12) rfl)
theorem u_781 : Cond.static yX10_lengthBy ∈ wsL_law := in_wsL_law_r33 _ (List.mem_of_getElem? (i := 13) rfl)
theorem u_782 : Cond.code yX10_lengthBy cX10_lengthBy 3 (some .int) ∈ wsL_law := in_wsL_law_r33 _ (List.mem_of_getElem? (i := 14) rfl)
theorem u_783 : Cond.methodLink RX10 197 yX10_mayStand ∈ wsL_law := in_wsL_law_r33 _ (List.mem_of_getElem? (i := 15) rfl)
theorem u_784 : Cond.instanceMethod yX10_mayStand ∈ wsL_law := in_wsL_law_r33 _ (List.mem_of_getElem? (i := 16) rfl)
theorem u_785 : Cond.selects RX10 yX10_mayStand yX10_mayStand ∈ wsL_law := in_wsL_law_r33 _ (List.mem_of_getElem? (i := 17) rfl)
theorem u_786 : Cond.code yX10_mayStand cX10_mayStand 3 (some .boolean) ∈ wsL_law := in_wsL_law_r33 _ (List.mem_of_getElem? (i := 18) rfl)
theorem u_787 : Cond.constant RX10 213 (440786851) ∈ wsL_law := in_wsL_law_r33 _ (List.mem_of_getElem? (i := 19) rfl)
theorem u_788 : Cond.constant RX10 206 (408125543) ∈ wsL_law := in_wsL_law_r33 _ (List.mem_of_getElem? (i := 20) rfl)
theorem u_789 : Cond.constant RX10 217 (357149030) ∈ wsL_law := in_wsL_law_r33 _ (List.mem_of_getElem? (i := 21) rfl)
theorem u_790 : Cond.constant RX10 218 (374648427) ∈ wsL_law := in_wsL_law_r33 _ (List.mem_of_getElem? (i := 22) rfl)
theorem u_791 : Cond.constant RX10 219 (2807729) ∈ wsL_law := in_wsL_law_r33 _ (List.mem_of_getElem? (i := 23) rfl)
theorem u_792 : Cond.methodLink RX10 214 yX10_bitOfHead ∈ wsL_law := in_wsL_law_r34 _ (List.mem_of_getElem? (i := 0) rfl)
theorem u_793 : Cond.instanceMethod yX10_bitOfHead ∈ wsL_law := in_wsL_law_r34 _ (List.mem_of_getElem? (i := 1) rfl)
theorem u_794 : Cond.selects RX10 yX10_bitOfHead yX10_bitOfHead ∈ wsL_law := in_wsL_law_r34 _ (List.mem_of_getElem? (i := 2) rfl)
theorem u_795 : Cond.code yX10_bitOfHead cX10_bitOfHead 1 (some .int) ∈ wsL_law := in_wsL_law_r34 _ (List.mem_of_getElem? (i := 3) rfl)
theorem u_796 : Cond.methodLink RX10 227 yX10_head ∈ wsL_law := in_wsL_law_r34 _ (List.mem_of_getElem? (i := 4) rfl)
theorem u_797 : Cond.instanceMethod yX10_head ∈ wsL_law := in_wsL_law_r34 _ (List.mem_of_getElem? (i := 5) rfl)
theorem u_798 : Cond.selects RX10 yX10_head yX10_head ∈ wsL_law := in_wsL_law_r34 _ (List.mem_of_getElem? (i := 6) rfl)
theorem u_799 : Cond.code yX10_head cX10_head 8 (some .boolean) ∈ wsL_law := in_wsL_law_r34 _ (List.mem_of_getElem? (i := 7) rfl)
theorem u_800 : Cond.constantLong RX10 208 (2147483647) ∈ wsL_law := in_wsL_law_r34 _ (List.mem_of_getElem? (i := 8) rfl)
theorem u_801 : Cond.methodLink RX10 200 yX10_sizeAt ∈ wsL_law := in_wsL_law_r34 _ (List.mem_of_getElem? (i := 9) rfl)
theorem u_802 : Cond.instanceMethod yX10_sizeAt ∈ wsL_law := in_wsL_law_r34 _ (List.mem_of_getElem? (i := 10) rfl)
theorem u_803 : Cond.selects RX10 yX10_sizeAt yX10_sizeAt ∈ wsL_law := in_wsL_law_r34 _ (List.mem_of_getElem? (i := 11) rfl)
theorem u_804 : Cond.code yX10_sizeAt cX10_sizeAt 6 (some .long) ∈ wsL_law := in_wsL_law_r34 _ (List.mem_of_getElem? (i := 12) rfl)
theorem u_805 : Cond.methodLink RX10 231 yX10_bit ∈ wsL_law := in_wsL_law_r34 _ (List.mem_of_getElem? (i := 13) rfl)
theorem u_806 : Cond.instanceMethod yX10_bit ∈ wsL_law := in_wsL_law_r34 _ (List.mem_of_getElem? (i := 14) rfl)
theorem u_807 : Cond.selects RX10 yX10_bit yX10_bit ∈ wsL_law := in_wsL_law_r34 _ (List.mem_of_getElem? (i := 15) rfl)
theorem u_808 : Cond.code yX10_bit cX10_bit 2 (some .int) ∈ wsL_law := in_wsL_law_r34 _ (List.mem_of_getElem? (i := 16) rfl)
theorem u_809 : Cond.methodLink RX10 234 yX10_sortOf ∈ wsL_law := in_wsL_law_r34 _ (List.mem_of_getElem? (i := 17) rfl)
theorem u_810 : Cond.instanceMethod yX10_sortOf ∈ wsL_law := in_wsL_law_r34 _ (List.mem_of_getElem? (i := 18) rfl)
theorem u_811 : Cond.selects RX10 yX10_sortOf yX10_sortOf ∈ wsL_law := in_wsL_law_r34 _ (List.mem_of_getElem? (i := 19) rfl)
theorem u_812 : Cond.code yX10_sortOf cX10_sortOf 1 (some .int) ∈ wsL_law := in_wsL_law_r34 _ (List.mem_of_getElem? (i := 20) rfl)
theorem u_813 : Cond.methodLink RX10 237 yX10_plain ∈ wsL_law := in_wsL_law_r34 _ (List.mem_of_getElem? (i := 21) rfl)
theorem u_814 : Cond.instanceMethod yX10_plain ∈ wsL_law := in_wsL_law_r34 _ (List.mem_of_getElem? (i := 22) rfl)
theorem u_815 : Cond.selects RX10 yX10_plain yX10_plain ∈ wsL_law := in_wsL_law_r34 _ (List.mem_of_getElem? (i := 23) rfl)
theorem u_816 : Cond.code yX10_plain cX10_plain 4 (some .boolean) ∈ wsL_law := in_wsL_law_r35 _ (List.mem_of_getElem? (i := 0) rfl)
theorem u_817 : Cond.constantLong RX10 262 (4611686018427387903) ∈ wsL_law := in_wsL_law_r35 _ (List.mem_of_getElem? (i := 1) rfl)
theorem u_818 : Cond.constantLong RX10 270 (8) ∈ wsL_law := in_wsL_law_r35 _ (List.mem_of_getElem? (i := 2) rfl)
theorem u_819 : Cond.fieldLink RX10 276 "StreamRemuxerModel" "number" "I" ∈ wsL_law := in_wsL_law_r35 _ (List.mem_of_getElem? (i := 3) rfl)
theorem u_820 : Cond.constantLong RX10 279 (126) ∈ wsL_law := in_wsL_law_r35 _ (List.mem_of_getElem? (i := 4) rfl)
theorem u_821 : Cond.constantLong RX10 281 (2) ∈ wsL_law := in_wsL_law_r35 _ (List.mem_of_getElem? (i := 5) rfl)
theorem u_822 : Cond.fieldLink RX10 283 "StreamRemuxerModel" "clusterTime" "J" ∈ wsL_law := in_wsL_law_r35 _ (List.mem_of_getElem? (i := 6) rfl)
theorem u_823 : Cond.methodLink RX10 264 yX10_isWithin ∈ wsL_law := in_wsL_law_r35 _ (List.mem_of_getElem? (i := 7) rfl)
theorem u_824 : Cond.instanceMethod yX10_isWithin ∈ wsL_law := in_wsL_law_r35 _ (List.mem_of_getElem? (i := 8) rfl)
theorem u_825 : Cond.selects RX10 yX10_isWithin yX10_isWithin ∈ wsL_law := in_wsL_law_r35 _ (List.mem_of_getElem? (i := 9) rfl)
theorem u_826 : Cond.code yX10_isWithin cX10_isWithin 8 (some .boolean) ∈ wsL_law := in_wsL_law_r35 _ (List.mem_of_getElem? (i := 10) rfl)
theorem u_827 : Cond.methodLink RX10 258 yX10_uint ∈ wsL_law := in_wsL_law_r35 _ (List.mem_of_getElem? (i := 11) rfl)
theorem u_828 : Cond.instanceMethod yX10_uint ∈ wsL_law := in_wsL_law_r35 _ (List.mem_of_getElem? (i := 12) rfl)
theorem u_829 : Cond.selects RX10 yX10_uint yX10_uint ∈ wsL_law := in_wsL_law_r35 _ (List.mem_of_getElem? (i := 13) rfl)
theorem u_830 : Cond.code yX10_uint cX10_uint 4 (some .long) ∈ wsL_law := in_wsL_law_r35 _ (List.mem_of_getElem? (i := 14) rfl)
theorem u_831 : Cond.constantLong RX10 256 (18014398509481984) ∈ wsL_law := in_wsL_law_r35 _ (List.mem_of_getElem? (i := 15) rfl)
theorem u_832 : Cond.methodLink RX10 272 yX10_isMatroska ∈ wsL_law := in_wsL_law_r35 _ (List.mem_of_getElem? (i := 16) rfl)
theorem u_833 : Cond.instanceMethod yX10_isMatroska ∈ wsL_law := in_wsL_law_r35 _ (List.mem_of_getElem? (i := 17) rfl)
theorem u_834 : Cond.selects RX10 yX10_isMatroska yX10_isMatroska ∈ wsL_law := in_wsL_law_r35 _ (List.mem_of_getElem? (i := 18) rfl)
theorem u_835 : Cond.code yX10_isMatroska cX10_isMatroska 4 (some .boolean) ∈ wsL_law := in_wsL_law_r35 _ (List.mem_of_getElem? (i := 19) rfl)
theorem u_836 : Cond.constantLong RX10 289 (7881708857720007521) ∈ wsL_law := in_wsL_law_r35 _ (List.mem_of_getElem? (i := 20) rfl)
theorem u_837 : Cond.methodLink RX10 286 yX10_block ∈ wsL_law := in_wsL_law_r35 _ (List.mem_of_getElem? (i := 21) rfl)
theorem u_838 : Cond.instanceMethod yX10_block ∈ wsL_law := in_wsL_law_r35 _ (List.mem_of_getElem? (i := 22) rfl)
theorem u_839 : Cond.selects RX10 yX10_block yX10_block ∈ wsL_law := in_wsL_law_r35 _ (List.mem_of_getElem? (i := 23) rfl)
theorem u_840 : Cond.code yX10_block cX10_block 13 (some .boolean) ∈ wsL_law := in_wsL_law_r36 _ (List.mem_of_getElem? (i := 0) rfl)
theorem u_841 : Cond.methodLink RX10 294 yX10_laced ∈ wsL_law := in_wsL_law_r36 _ (List.mem_of_getElem? (i := 1) rfl)
theorem u_842 : Cond.instanceMethod yX10_laced ∈ wsL_law := in_wsL_law_r36 _ (List.mem_of_getElem? (i := 2) rfl)
theorem u_843 : Cond.selects RX10 yX10_laced yX10_laced ∈ wsL_law := in_wsL_law_r36 _ (List.mem_of_getElem? (i := 3) rfl)
theorem u_844 : Cond.code yX10_laced cX10_laced 9 (some .int) ∈ wsL_law := in_wsL_law_r36 _ (List.mem_of_getElem? (i := 4) rfl)
theorem u_845 : Cond.constantLong RX10 298 (6000) ∈ wsL_law := in_wsL_law_r36 _ (List.mem_of_getElem? (i := 5) rfl)
theorem u_846 : Cond.methodLink RX10 253 yX10_has ∈ wsL_law := in_wsL_law_r36 _ (List.mem_of_getElem? (i := 6) rfl)
theorem u_847 : Cond.instanceMethod yX10_has ∈ wsL_law := in_wsL_law_r36 _ (List.mem_of_getElem? (i := 7) rfl)
theorem u_848 : Cond.selects RX10 yX10_has yX10_has ∈ wsL_law := in_wsL_law_r36 _ (List.mem_of_getElem? (i := 8) rfl)
theorem u_849 : Cond.code yX10_has cX10_has 5 (some .boolean) ∈ wsL_law := in_wsL_law_r36 _ (List.mem_of_getElem? (i := 9) rfl)
theorem u_850 : Cond.methodLink RL 49 yX9_wrong ∈ wsL_law := in_wsL_law_r36 _ (List.mem_of_getElem? (i := 10) rfl)
theorem u_851 : Cond.instanceMethod yX9_wrong ∈ wsL_law := in_wsL_law_r36 _ (List.mem_of_getElem? (i := 11) rfl)
theorem u_852 : Cond.selects RX9 yX9_wrong yX9_wrong ∈ wsL_law := in_wsL_law_r36 _ (List.mem_of_getElem? (i := 12) rfl)
theorem u_853 : Cond.code yX9_wrong cX9_wrong 2 (some .int) ∈ wsL_law := in_wsL_law_r36 _ (List.mem_of_getElem? (i := 13) rfl)
theorem u_854 : Cond.methodLink RL 52 yX10_wrong ∈ wsL_law := in_wsL_law_r36 _ (List.mem_of_getElem? (i := 14) rfl)
theorem u_855 : Cond.instanceMethod yX10_wrong ∈ wsL_law := in_wsL_law_r36 _ (List.mem_of_getElem? (i := 15) rfl)
theorem u_856 : Cond.selects RX10 yX10_wrong yX10_wrong ∈ wsL_law := in_wsL_law_r36 _ (List.mem_of_getElem? (i := 16) rfl)
theorem u_857 : Cond.code yX10_wrong cX10_wrong 2 (some .int) ∈ wsL_law := in_wsL_law_r36 _ (List.mem_of_getElem? (i := 17) rfl)
theorem u_858 : Cond.methodLink RL 53 yX9_turn ∈ wsL_law := in_wsL_law_r36 _ (List.mem_of_getElem? (i := 18) rfl)
theorem u_859 : Cond.instanceMethod yX9_turn ∈ wsL_law := in_wsL_law_r36 _ (List.mem_of_getElem? (i := 19) rfl)
theorem u_860 : Cond.selects RX9 yX9_turn yX9_turn ∈ wsL_law := in_wsL_law_r36 _ (List.mem_of_getElem? (i := 20) rfl)
theorem u_861 : Cond.code yX9_turn cX9_turn 1 (some .int) ∈ wsL_law := in_wsL_law_r36 _ (List.mem_of_getElem? (i := 21) rfl)
theorem u_862 : Cond.methodLink RX9 155 yX8_becomeLike ∈ wsL_law := in_wsL_law_r36 _ (List.mem_of_getElem? (i := 22) rfl)
theorem u_863 : Cond.instanceMethod yX8_becomeLike ∈ wsL_law := in_wsL_law_r36 _ (List.mem_of_getElem? (i := 23) rfl)
theorem u_864 : Cond.selects RX8 yX8_becomeLike yX8_becomeLike ∈ wsL_law := in_wsL_law_r37 _ (List.mem_of_getElem? (i := 0) rfl)
theorem u_865 : Cond.code yX8_becomeLike cX8_becomeLike 2 none ∈ wsL_law := in_wsL_law_r37 _ (List.mem_of_getElem? (i := 1) rfl)
theorem u_866 : Cond.methodLink RX8 44 Lib.Math.min.name ∈ wsL_law := in_wsL_law_r37 _ (List.mem_of_getElem? (i := 2) rfl)
theorem u_867 : Cond.static Lib.Math.min.name ∈ wsL_law := in_wsL_law_r37 _ (List.mem_of_getElem? (i := 3) rfl)
theorem u_868 : Cond.code Lib.Math.min.name Lib.Math.min.code 2 (some .int) ∈ wsL_law := in_wsL_law_r37 _ (List.mem_of_getElem? (i := 4) rfl)
theorem u_869 : Cond.methodLink RX8 47 arraycopyName ∈ wsL_law := in_wsL_law_r37 _ (List.mem_of_getElem? (i := 5) rfl)
theorem u_870 : Cond.native arraycopyName ∈ wsL_law := in_wsL_law_r37 _ (List.mem_of_getElem? (i := 6) rfl)
theorem u_871 : Cond.static arraycopyName ∈ wsL_law := in_wsL_law_r37 _ (List.mem_of_getElem? (i := 7) rfl)
theorem u_872 : Cond.initialized "java/lang/System" ∈ wsL_law := in_wsL_law_r37 _ (List.mem_of_getElem? (i := 8) rfl)
theorem u_873 : Cond.methodLink RL 56 yX10_turn ∈ wsL_law := in_wsL_law_r37 _ (List.mem_of_getElem? (i := 9) rfl)
theorem u_874 : Cond.instanceMethod yX10_turn ∈ wsL_law := in_wsL_law_r37 _ (List.mem_of_getElem? (i := 10) rfl)
theorem u_875 : Cond.selects RX10 yX10_turn yX10_turn ∈ wsL_law := in_wsL_law_r37 _ (List.mem_of_getElem? (i := 11) rfl)
theorem u_876 : Cond.code yX10_turn cX10_turn 2 (some .int) ∈ wsL_law := in_wsL_law_r37 _ (List.mem_of_getElem? (i := 12) rfl)
theorem u_877 : Cond.methodLink RL 57 yX9_count ∈ wsL_law := in_wsL_law_r37 _ (List.mem_of_getElem? (i := 13) rfl)
theorem u_878 : Cond.instanceMethod yX9_count ∈ wsL_law := in_wsL_law_r37 _ (List.mem_of_getElem? (i := 14) rfl)
theorem u_879 : Cond.selects RX9 yX9_count yX9_count ∈ wsL_law := in_wsL_law_r37 _ (List.mem_of_getElem? (i := 15) rfl)
theorem u_880 : Cond.code yX9_count cX9_count 2 (some .int) ∈ wsL_law := in_wsL_law_r37 _ (List.mem_of_getElem? (i := 16) rfl)
theorem u_881 : Cond.methodLink RL 60 yX10_count ∈ wsL_law := in_wsL_law_r37 _ (List.mem_of_getElem? (i := 17) rfl)
theorem u_882 : Cond.instanceMethod yX10_count ∈ wsL_law := in_wsL_law_r37 _ (List.mem_of_getElem? (i := 18) rfl)
theorem u_883 : Cond.selects RX10 yX10_count yX10_count ∈ wsL_law := in_wsL_law_r37 _ (List.mem_of_getElem? (i := 19) rfl)
theorem u_884 : Cond.code yX10_count cX10_count 2 (some .int) ∈ wsL_law := in_wsL_law_r37 _ (List.mem_of_getElem? (i := 20) rfl)
theorem u_885 : Cond.methodLink RL 61 yX9_size ∈ wsL_law := in_wsL_law_r37 _ (List.mem_of_getElem? (i := 21) rfl)
theorem u_886 : Cond.instanceMethod yX9_size ∈ wsL_law := in_wsL_law_r37 _ (List.mem_of_getElem? (i := 22) rfl)
theorem u_887 : Cond.selects RX9 yX9_size yX9_size ∈ wsL_law := in_wsL_law_r37 _ (List.mem_of_getElem? (i := 23) rfl)
theorem u_888 : Cond.code yX9_size cX9_size 2 (some .int) ∈ wsL_law := in_wsL_law_r38 _ (List.mem_of_getElem? (i := 0) rfl)
theorem u_889 : Cond.methodLink RX9 159 yX4_bytesOf ∈ wsL_law := in_wsL_law_r38 _ (List.mem_of_getElem? (i := 1) rfl)
theorem u_890 : Cond.methodLink RL 64 yX10_size ∈ wsL_law := in_wsL_law_r38 _ (List.mem_of_getElem? (i := 2) rfl)
theorem u_891 : Cond.instanceMethod yX10_size ∈ wsL_law := in_wsL_law_r38 _ (List.mem_of_getElem? (i := 3) rfl)
theorem u_892 : Cond.selects RX10 yX10_size yX10_size ∈ wsL_law := in_wsL_law_r38 _ (List.mem_of_getElem? (i := 4) rfl)
theorem u_893 : Cond.code yX10_size cX10_size 2 (some .int) ∈ wsL_law := in_wsL_law_r38 _ (List.mem_of_getElem? (i := 5) rfl)
theorem u_894 : Cond.methodLink RL 65 yX9_time ∈ wsL_law := in_wsL_law_r38 _ (List.mem_of_getElem? (i := 6) rfl)
theorem u_895 : Cond.instanceMethod yX9_time ∈ wsL_law := in_wsL_law_r38 _ (List.mem_of_getElem? (i := 7) rfl)
theorem u_896 : Cond.selects RX9 yX9_time yX9_time ∈ wsL_law := in_wsL_law_r38 _ (List.mem_of_getElem? (i := 8) rfl)
theorem u_897 : Cond.code yX9_time cX9_time 2 (some .long) ∈ wsL_law := in_wsL_law_r38 _ (List.mem_of_getElem? (i := 9) rfl)
theorem u_898 : Cond.methodLink RX9 163 yX4_timeOf ∈ wsL_law := in_wsL_law_r38 _ (List.mem_of_getElem? (i := 10) rfl)
theorem u_899 : Cond.methodLink RL 69 yX10_time ∈ wsL_law := in_wsL_law_r38 _ (List.mem_of_getElem? (i := 11) rfl)
theorem u_900 : Cond.instanceMethod yX10_time ∈ wsL_law := in_wsL_law_r38 _ (List.mem_of_getElem? (i := 12) rfl)
theorem u_901 : Cond.selects RX10 yX10_time yX10_time ∈ wsL_law := in_wsL_law_r38 _ (List.mem_of_getElem? (i := 13) rfl)
theorem u_902 : Cond.code yX10_time cX10_time 2 (some .long) ∈ wsL_law := in_wsL_law_r38 _ (List.mem_of_getElem? (i := 14) rfl)
theorem u_903 : Cond.methodLink RL 70 yX9_octet ∈ wsL_law := in_wsL_law_r38 _ (List.mem_of_getElem? (i := 15) rfl)
theorem u_904 : Cond.instanceMethod yX9_octet ∈ wsL_law := in_wsL_law_r38 _ (List.mem_of_getElem? (i := 16) rfl)
theorem u_905 : Cond.selects RX9 yX9_octet yX9_octet ∈ wsL_law := in_wsL_law_r38 _ (List.mem_of_getElem? (i := 17) rfl)
theorem u_906 : Cond.code yX9_octet cX9_octet 3 (some .int) ∈ wsL_law := in_wsL_law_r38 _ (List.mem_of_getElem? (i := 18) rfl)
theorem u_907 : Cond.methodLink RX9 167 yX4_byteOf ∈ wsL_law := in_wsL_law_r38 _ (List.mem_of_getElem? (i := 19) rfl)
theorem u_908 : Cond.instanceMethod yX4_byteOf ∈ wsL_law := in_wsL_law_r38 _ (List.mem_of_getElem? (i := 20) rfl)
theorem u_909 : Cond.selects RX4 yX4_byteOf yX4_byteOf ∈ wsL_law := in_wsL_law_r38 _ (List.mem_of_getElem? (i := 21) rfl)
theorem u_910 : Cond.code yX4_byteOf cX4_byteOf 3 (some .int) ∈ wsL_law := in_wsL_law_r38 _ (List.mem_of_getElem? (i := 22) rfl)
theorem u_911 : Cond.methodLink RX4 43 yX4_bytesOf ∈ wsL_law := in_wsL_law_r38 _ (List.mem_of_getElem? (i := 23) rfl)
theorem u_912 : Cond.methodLink RX4 46 yX8_at ∈ wsL_law := in_wsL_law_r39 _ (List.mem_of_getElem? (i := 0) rfl)
theorem u_913 : Cond.methodLink RL 74 yX10_octet ∈ wsL_law := in_wsL_law_r39 _ (List.mem_of_getElem? (i := 1) rfl)
theorem u_914 : Cond.instanceMethod yX10_octet ∈ wsL_law := in_wsL_law_r39 _ (List.mem_of_getElem? (i := 2) rfl)
theorem u_915 : Cond.selects RX10 yX10_octet yX10_octet ∈ wsL_law := in_wsL_law_r39 _ (List.mem_of_getElem? (i := 3) rfl)
theorem u_916 : Cond.code yX10_octet cX10_octet 5 (some .int) ∈ wsL_law := in_wsL_law_r39 _ (List.mem_of_getElem? (i := 4) rfl)
theorem u_917 : Cond.methodLink RL 75 yX9_out ∈ wsL_law := in_wsL_law_r39 _ (List.mem_of_getElem? (i := 5) rfl)
theorem u_918 : Cond.instanceMethod yX9_out ∈ wsL_law := in_wsL_law_r39 _ (List.mem_of_getElem? (i := 6) rfl)
theorem u_919 : Cond.selects RX9 yX9_out yX9_out ∈ wsL_law := in_wsL_law_r39 _ (List.mem_of_getElem? (i := 7) rfl)
theorem u_920 : Cond.code yX9_out cX9_out 2 (some .int) ∈ wsL_law := in_wsL_law_r39 _ (List.mem_of_getElem? (i := 8) rfl)
theorem u_921 : Cond.methodLink RX9 171 yX8_at ∈ wsL_law := in_wsL_law_r39 _ (List.mem_of_getElem? (i := 9) rfl)
theorem u_922 : Cond.methodLink RL 78 yX10_out ∈ wsL_law := in_wsL_law_r39 _ (List.mem_of_getElem? (i := 10) rfl)
theorem u_923 : Cond.instanceMethod yX10_out ∈ wsL_law := in_wsL_law_r39 _ (List.mem_of_getElem? (i := 11) rfl)
theorem u_924 : Cond.selects RX10 yX10_out yX10_out ∈ wsL_law := in_wsL_law_r39 _ (List.mem_of_getElem? (i := 12) rfl)
theorem u_925 : Cond.code yX10_out cX10_out 2 (some .int) ∈ wsL_law := in_wsL_law_r39 _ (List.mem_of_getElem? (i := 13) rfl)
theorem u_926 : Cond.methodLink RL 79 yX9_patch ∈ wsL_law := in_wsL_law_r39 _ (List.mem_of_getElem? (i := 14) rfl)
theorem u_927 : Cond.instanceMethod yX9_patch ∈ wsL_law := in_wsL_law_r39 _ (List.mem_of_getElem? (i := 15) rfl)
theorem u_928 : Cond.selects RX9 yX9_patch yX9_patch ∈ wsL_law := in_wsL_law_r39 _ (List.mem_of_getElem? (i := 16) rfl)
theorem u_929 : Cond.code yX9_patch cX9_patch 3 (some .boolean) ∈ wsL_law := in_wsL_law_r39 _ (List.mem_of_getElem? (i := 17) rfl)
theorem u_930 : Cond.methodLink RX9 174 yX8_change ∈ wsL_law := in_wsL_law_r39 _ (List.mem_of_getElem? (i := 18) rfl)
theorem u_931 : Cond.methodLink RL 83 yX10_patch ∈ wsL_law := in_wsL_law_r39 _ (List.mem_of_getElem? (i := 19) rfl)
theorem u_932 : Cond.instanceMethod yX10_patch ∈ wsL_law := in_wsL_law_r39 _ (List.mem_of_getElem? (i := 20) rfl)
theorem u_933 : Cond.selects RX10 yX10_patch yX10_patch ∈ wsL_law := in_wsL_law_r39 _ (List.mem_of_getElem? (i := 21) rfl)
theorem u_934 : Cond.code yX10_patch cX10_patch 3 (some .boolean) ∈ wsL_law := in_wsL_law_r39 _ (List.mem_of_getElem? (i := 22) rfl)
theorem u_935 : Cond.methodLink RL 84 yX9_sum ∈ wsL_law := in_wsL_law_r39 _ (List.mem_of_getElem? (i := 23) rfl)
theorem u_936 : Cond.instanceMethod yX9_sum ∈ wsL_law := in_wsL_law_r40 _ (List.mem_of_getElem? (i := 0) rfl)
theorem u_937 : Cond.selects RX9 yX9_sum yX9_sum ∈ wsL_law := in_wsL_law_r40 _ (List.mem_of_getElem? (i := 1) rfl)
theorem u_938 : Cond.code yX9_sum cX9_sum 3 (some .boolean) ∈ wsL_law := in_wsL_law_r40 _ (List.mem_of_getElem? (i := 2) rfl)
theorem u_939 : Cond.methodLink RX9 177 yX5_isMarked ∈ wsL_law := in_wsL_law_r40 _ (List.mem_of_getElem? (i := 3) rfl)
theorem u_940 : Cond.methodLink RX9 181 yX5_endOf ∈ wsL_law := in_wsL_law_r40 _ (List.mem_of_getElem? (i := 4) rfl)
theorem u_941 : Cond.methodLink RX9 185 yX5_makeSumRight ∈ wsL_law := in_wsL_law_r40 _ (List.mem_of_getElem? (i := 5) rfl)
theorem u_942 : Cond.methodLink RL 88 yX10_sum ∈ wsL_law := in_wsL_law_r40 _ (List.mem_of_getElem? (i := 6) rfl)
theorem u_943 : Cond.instanceMethod yX10_sum ∈ wsL_law := in_wsL_law_r40 _ (List.mem_of_getElem? (i := 7) rfl)
theorem u_944 : Cond.selects RX10 yX10_sum yX10_sum ∈ wsL_law := in_wsL_law_r40 _ (List.mem_of_getElem? (i := 8) rfl)
theorem u_945 : Cond.code yX10_sum cX10_sum 2 (some .boolean) ∈ wsL_law := in_wsL_law_r40 _ (List.mem_of_getElem? (i := 9) rfl)
theorem all_app {f : Cond → Bool} {a b : List Cond} (ha : a.all f = true) (hb : b.all f = true) : (a ++ b).all f = true := by rw [List.all_append, ha, hb]; rfl
theorem al_wsX30 : wsX30.all goodWord = true := by decide +kernel
theorem al_wsX10 : wsX10.all goodWord = true := by decide +kernel
theorem al_wsX20 : wsX20.all goodWord = true := by decide +kernel
theorem al_wsX60 : wsX60.all goodWord = true := by decide +kernel
theorem al_wsX70 : wsX70.all goodWord = true := by decide +kernel
theorem al_wsX40 : wsX40.all goodWord = true := by decide +kernel
theorem al_wsX80 : wsX80.all goodWord = true := by decide +kernel
theorem al_wsX100 : wsX100.all goodWord = true := by decide +kernel
theorem al_wsX90 : wsX90.all goodWord = true := by decide +kernel
theorem al_wsL_law_r40 : wsL_law_r40.all goodWord = true := by decide +kernel
theorem al_wsL_law_r39 : wsL_law_r39.all goodWord = true := by decide +kernel
theorem al_wsL_law_r38 : wsL_law_r38.all goodWord = true := by decide +kernel
theorem al_wsL_law_r37 : wsL_law_r37.all goodWord = true := by decide +kernel
theorem al_wsL_law_r36 : wsL_law_r36.all goodWord = true := by decide +kernel
theorem al_wsL_law_r35 : wsL_law_r35.all goodWord = true := by decide +kernel
theorem al_wsL_law_r34 : wsL_law_r34.all goodWord = true := by decide +kernel
theorem al_wsL_law_r33 : wsL_law_r33.all goodWord = true := by decide +kernel
theorem al_wsL_law_r32 : wsL_law_r32.all goodWord = true := by decide +kernel
theorem al_wsL_law_r31 : wsL_law_r31.all goodWord = true := by decide +kernel
theorem al_wsL_law_r30 : wsL_law_r30.all goodWord = true := by decide +kernel
theorem al_wsL_law_r29 : wsL_law_r29.all goodWord = true := by decide +kernel
theorem al_wsL_law_r28 : wsL_law_r28.all goodWord = true := by decide +kernel
theorem al_wsL_law_r27 : wsL_law_r27.all goodWord = true := by decide +kernel
theorem al_wsL_law_r26 : wsL_law_r26.all goodWord = true := by decide +kernel
theorem al_wsL_law_r25 : wsL_law_r25.all goodWord = true := by decide +kernel
theorem al_wsL_law_r24 : wsL_law_r24.all goodWord = true := by decide +kernel
theorem al_wsL_law_r23 : wsL_law_r23.all goodWord = true := by decide +kernel
theorem al_wsL_law_r22 : wsL_law_r22.all goodWord = true := by decide +kernel
theorem al_wsL_law_r21 : wsL_law_r21.all goodWord = true := by decide +kernel
theorem al_wsL_law_r20 : wsL_law_r20.all goodWord = true := by decide +kernel
theorem al_wsL_law_r19 : wsL_law_r19.all goodWord = true := by decide +kernel
theorem al_wsL_law_r18 : wsL_law_r18.all goodWord = true := by decide +kernel
theorem al_wsL_law_r17 : wsL_law_r17.all goodWord = true := by decide +kernel
theorem al_wsL_law_r16 : wsL_law_r16.all goodWord = true := by decide +kernel
theorem al_wsL_law_r15 : wsL_law_r15.all goodWord = true := by decide +kernel
theorem al_wsL_law_r14 : wsL_law_r14.all goodWord = true := by decide +kernel
theorem al_wsL_law_r13 : wsL_law_r13.all goodWord = true := by decide +kernel
theorem al_wsL_law_r12 : wsL_law_r12.all goodWord = true := by decide +kernel
theorem al_wsL_law_r11 : wsL_law_r11.all goodWord = true := by decide +kernel
theorem al_wsL_law_r10 : wsL_law_r10.all goodWord = true := by decide +kernel
theorem al_wsL_law_r9 : wsL_law_r9.all goodWord = true := by decide +kernel
theorem al_wsL_law_r8 : wsL_law_r8.all goodWord = true := by decide +kernel
theorem al_wsL_law_r7 : wsL_law_r7.all goodWord = true := by decide +kernel
theorem al_wsL_law_r6 : wsL_law_r6.all goodWord = true := by decide +kernel
theorem al_wsL_law_r5 : wsL_law_r5.all goodWord = true := by decide +kernel
theorem al_wsL_law_r4 : wsL_law_r4.all goodWord = true := by decide +kernel
theorem al_wsL_law_r3 : wsL_law_r3.all goodWord = true := by decide +kernel
theorem al_wsL_law_r2 : wsL_law_r2.all goodWord = true := by decide +kernel
theorem al_wsL_law_r1 : wsL_law_r1.all goodWord = true := by decide +kernel
theorem wl_all : wsL_law.all goodWord = true := (all_app (all_app (all_app (all_app (all_app (all_app (all_app (all_app (all_app (all_app (all_app al_wsL_law_r1 (all_app al_wsL_law_r2 (all_app al_wsL_law_r3 (all_app al_wsL_law_r4 (all_app al_wsL_law_r5 (all_app al_wsL_law_r6 (all_app al_wsL_law_r7 (all_app al_wsL_law_r8 (all_app al_wsL_law_r9 (all_app al_wsL_law_r10 (all_app al_wsL_law_r11 (all_app al_wsL_law_r12 (all_app al_wsL_law_r13 (all_app al_wsL_law_r14 (all_app al_wsL_law_r15 (all_app al_wsL_law_r16 (all_app al_wsL_law_r17 (all_app al_wsL_law_r18 (all_app al_wsL_law_r19 (all_app al_wsL_law_r20 (all_app al_wsL_law_r21 (all_app al_wsL_law_r22 (all_app al_wsL_law_r23 (all_app al_wsL_law_r24 (all_app al_wsL_law_r25 (all_app al_wsL_law_r26 (all_app al_wsL_law_r27 (all_app al_wsL_law_r28 (all_app al_wsL_law_r29 (all_app al_wsL_law_r30 (all_app al_wsL_law_r31 (all_app al_wsL_law_r32 (all_app al_wsL_law_r33 (all_app al_wsL_law_r34 (all_app al_wsL_law_r35 (all_app al_wsL_law_r36 (all_app al_wsL_law_r37 (all_app al_wsL_law_r38 (all_app al_wsL_law_r39 al_wsL_law_r40))))))))))))))))))))))))))))))))))))))) al_wsX90) al_wsX100) al_wsX80) al_wsX40) al_wsX70) al_wsX60) al_wsX20) al_wsX10) al_wsX30) (rfl))
theorem goodC {c : Cond} {ws : List Cond} (h : ∀ w ∈ ws, w ∈ wsL_law) : GoodIn (c :: wsL_law) ws := fun w hw => ⟨List.mem_cons_of_mem _ (h w hw), good_of_word (List.all_eq_true.mp wl_all w (h w hw))⟩
theorem goodL {ws : List Cond} (h : ∀ w ∈ ws, w ∈ wsL_law) : GoodIn wsL_law ws := fun w hw => ⟨h w hw, good_of_word (List.all_eq_true.mp wl_all w (h w hw))⟩
theorem inC {c : Cond} (h : c ∈ wsL_law) : ∀ w ∈ c :: wsL_law, w ∈ wsL_law := fun w hw => (List.mem_cons.mp hw).elim (fun e => e ▸ h) id
theorem inV {own C : String} {idx : Nat} {y : MethodName} {ws : List Cond} (h1 : Cond.methodLink own idx y ∈ wsL_law) (h2 : Cond.instanceMethod y ∈ wsL_law) (h3 : Cond.selects C y y ∈ wsL_law) (h4 : Cond.initialized C ∈ wsL_law) (h : ∀ w ∈ ws, w ∈ wsL_law) : ∀ w ∈ wsV own idx C y ws, w ∈ wsL_law := fun w hw => by
  unfold wsV at hw
  rcases List.mem_append.mp hw with q | q
  · simp only [List.mem_cons, List.not_mem_nil, or_false] at q
    rcases q with rfl | rfl | rfl | rfl
    · exact h1
    · exact h2
    · exact h3
    · exact h4
  · exact h w q
theorem inS {own : String} {idx : Nat} {y : MethodName} {ws : List Cond} (h1 : Cond.methodLink own idx y ∈ wsL_law) (h2 : Cond.static y ∈ wsL_law) (h4 : Cond.initialized y.cls ∈ wsL_law) (h : ∀ w ∈ ws, w ∈ wsL_law) : ∀ w ∈ va_wsS own idx y ws, w ∈ wsL_law := fun w hw => by
  unfold va_wsS at hw
  rcases List.mem_append.mp hw with q | q
  · simp only [List.mem_cons, List.not_mem_nil, or_false] at q
    rcases q with rfl | rfl | rfl
    · exact h1
    · exact h2
    · exact h4
  · exact h w q
def wsX0_highestSize : List Cond := .code yX0_highestSize cX0_highestSize 1 (some .long) :: wsL_law
theorem wsX0_highestSize_i : ∀ w ∈ wsX0_highestSize, w ∈ wsL_law := inC u_369
def wsX0_differenceShift : List Cond := .code yX0_differenceShift cX0_differenceShift 1 (some .long) :: wsL_law
theorem wsX0_differenceShift_i : ∀ w ∈ wsX0_differenceShift, w ∈ wsL_law := inC u_395
def wsX3_init : List Cond := .code yX3_init cX3_init 1 none :: wsL_law
theorem wsX3_init_i : ∀ w ∈ wsX3_init, w ∈ wsL_law := inC u_85
def wsX1_init : List Cond := .code yX1_init cX1_init 2 none :: wsL_law
theorem wsX1_init_i : ∀ w ∈ wsX1_init, w ∈ wsL_law := inC u_77
def wsX1_fail : List Cond := .code yX1_fail cX1_fail 3 (some .int) :: wsL_law
theorem wsX1_fail_i : ∀ w ∈ wsX1_fail, w ∈ wsL_law := inC u_611
def wsX1_openLevel : List Cond := .code yX1_openLevel cX1_openLevel 6 (some .int) :: wsL_law
theorem wsX1_openLevel_i : ∀ w ∈ wsX1_openLevel, w ∈ wsL_law := inC u_601
def wsX8_at : List Cond := .code yX8_at cX8_at 2 (some .int) :: wsL_law
theorem wsX8_at_i : ∀ w ∈ wsX8_at, w ∈ wsL_law := inC u_160
def wsX1_markedWidth : List Cond := .code yX1_markedWidth cX1_markedWidth 2 (some .int) :: wsL_law
theorem wsX1_markedWidth_i : ∀ w ∈ wsX1_markedWidth, w ∈ wsL_law := inC u_623
def wsX8_highFirst : List Cond := .code yX8_highFirst cX8_highFirst 6 (some .long) :: wsL_law
theorem wsX8_highFirst_i : ∀ w ∈ wsX8_highFirst, w ∈ wsL_law := inC u_468
def wsX1_readId : List Cond := .code yX1_readId cX1_readId 4 (some .int) :: wsL_law
theorem wsX1_readId_i : ∀ w ∈ wsX1_readId, w ∈ wsL_law := inC u_619
def wsX1_column : List Cond := .code yX1_column cX1_column 3 (some .long) :: wsL_law
theorem wsX1_column_i : ∀ w ∈ wsX1_column, w ∈ wsL_law := inC u_635
def wsX1_lacksSome : List Cond := .code yX1_lacksSome cX1_lacksSome 4 (some .boolean) :: wsL_law
theorem wsX1_lacksSome_i : ∀ w ∈ wsX1_lacksSome, w ∈ wsL_law := inC u_631
def wsX1_closeLevel : List Cond := .code yX1_closeLevel cX1_closeLevel 3 (some .int) :: wsL_law
theorem wsX1_closeLevel_i : ∀ w ∈ wsX1_closeLevel, w ∈ wsL_law := inC u_628
def wsX1_rowOf : List Cond := .code yX1_rowOf cX1_rowOf 5 (some .int) :: wsL_law
theorem wsX1_rowOf_i : ∀ w ∈ wsX1_rowOf, w ∈ wsL_law := inC u_639
def wsX1_isSeen : List Cond := .code yX1_isSeen cX1_isSeen 4 (some .boolean) :: wsL_law
theorem wsX1_isSeen_i : ∀ w ∈ wsX1_isSeen, w ∈ wsL_law := inC u_648
def wsX1_mayStand : List Cond := .code yX1_mayStand cX1_mayStand 2 (some .boolean) :: wsL_law
theorem wsX1_mayStand_i : ∀ w ∈ wsX1_mayStand, w ∈ wsL_law := inC u_642
def wsX1_sizeWidth : List Cond := .code yX1_sizeWidth cX1_sizeWidth 4 (some .int) :: wsL_law
theorem wsX1_sizeWidth_i : ∀ w ∈ wsX1_sizeWidth, w ∈ wsL_law := inC u_657
def wsX1_sizeNumber : List Cond := .code yX1_sizeNumber cX1_sizeNumber 6 (some .long) :: wsL_law
theorem wsX1_sizeNumber_i : ∀ w ∈ wsX1_sizeNumber, w ∈ wsL_law := inC u_661
def wsX1_readSize : List Cond := .code yX1_readSize cX1_readSize 7 (some .int) :: wsL_law
theorem wsX1_readSize_i : ∀ w ∈ wsX1_readSize, w ∈ wsL_law := inC u_652
def wsX1_readUint : List Cond := .code yX1_readUint cX1_readUint 7 (some .int) :: wsL_law
theorem wsX1_readUint_i : ∀ w ∈ wsX1_readUint, w ∈ wsL_law := inC u_666
def wsJ0_coder_7d493 : List Cond := .code yJ0_coder_7d493 cJ0_coder_7d493 1 (some .byte) :: wsL_law
theorem wsJ0_coder_7d493_i : ∀ w ∈ wsJ0_coder_7d493, w ∈ wsL_law := inC u_682
def wsJ0_length_8abf5 : List Cond := .code yJ0_length_8abf5 cJ0_length_8abf5 1 (some .int) :: wsL_law
theorem wsJ0_length_8abf5_i : ∀ w ∈ wsJ0_length_8abf5, w ∈ wsL_law := inC u_677
def wsJ0_isLatin1_aae02 : List Cond := .code yJ0_isLatin1_aae02 cJ0_isLatin1_aae02 1 (some .boolean) :: wsL_law
theorem wsJ0_isLatin1_aae02_i : ∀ w ∈ wsJ0_isLatin1_aae02, w ∈ wsL_law := inC u_692
def wsJ3_checkIndex_8e157 : List Cond := .code yJ3_checkIndex_8e157 cJ3_checkIndex_8e157 3 (some .int) :: wsL_law
theorem wsJ3_checkIndex_8e157_i : ∀ w ∈ wsJ3_checkIndex_8e157, w ∈ wsL_law := inC u_704
def wsJ0_checkIndex_df160 : List Cond := .code yJ0_checkIndex_df160 cJ0_checkIndex_df160 2 none :: wsL_law
theorem wsJ0_checkIndex_df160_i : ∀ w ∈ wsJ0_checkIndex_df160, w ∈ wsL_law := inC u_699
def wsJ1_charAt_3b067 : List Cond := .code yJ1_charAt_3b067 cJ1_charAt_3b067 2 (some .char) :: wsL_law
theorem wsJ1_charAt_3b067_i : ∀ w ∈ wsJ1_charAt_3b067, w ∈ wsL_law := inC u_696
def wsJ2_length_9d52b : List Cond := .code yJ2_length_9d52b cJ2_length_9d52b 1 (some .int) :: wsL_law
theorem wsJ2_length_9d52b_i : ∀ w ∈ wsJ2_length_9d52b, w ∈ wsL_law := inC u_714
def wsJ2_checkIndex_2214a : List Cond := .code yJ2_checkIndex_2214a cJ2_checkIndex_2214a 2 none :: wsL_law
theorem wsJ2_checkIndex_2214a_i : ∀ w ∈ wsJ2_checkIndex_2214a, w ∈ wsL_law := inC u_711
def wsJ2_getChar_3b067 : List Cond := .code yJ2_getChar_3b067 cJ2_getChar_3b067 2 (some .char) :: wsL_law
theorem wsJ2_getChar_3b067_i : ∀ w ∈ wsJ2_getChar_3b067, w ∈ wsL_law := inC u_718
def wsJ2_charAt_3b067 : List Cond := .code yJ2_charAt_3b067 cJ2_charAt_3b067 2 (some .char) :: wsL_law
theorem wsJ2_charAt_3b067_i : ∀ w ∈ wsJ2_charAt_3b067, w ∈ wsL_law := inC u_708
def wsJ0_charAt_5068e : List Cond := .code yJ0_charAt_5068e cJ0_charAt_5068e 2 (some .char) :: wsL_law
theorem wsJ0_charAt_5068e_i : ∀ w ∈ wsJ0_charAt_5068e, w ∈ wsL_law := inC u_688
def wsX1_isDocumentName : List Cond := .code yX1_isDocumentName cX1_isDocumentName 4 (some .boolean) :: wsL_law
theorem wsX1_isDocumentName_i : ∀ w ∈ wsX1_isDocumentName, w ∈ wsL_law := inC u_672
def wsX1_shareAlike : List Cond := .code yX1_shareAlike cX1_shareAlike 4 (some .int) :: wsL_law
theorem wsX1_shareAlike_i : ∀ w ∈ wsX1_shareAlike, w ∈ wsL_law := inC u_735
def wsX1_readSummedSize : List Cond := .code yX1_readSummedSize cX1_readSummedSize 5 (some .long) :: wsL_law
theorem wsX1_readSummedSize_i : ∀ w ∈ wsX1_readSummedSize, w ∈ wsL_law := inC u_739
def wsX1_readSizeOrDifference : List Cond := .code yX1_readSizeOrDifference cX1_readSizeOrDifference 6 (some .long) :: wsL_law
theorem wsX1_readSizeOrDifference_i : ∀ w ∈ wsX1_readSizeOrDifference, w ∈ wsL_law := inC u_743
def wsX1_readLacing : List Cond := .code yX1_readLacing cX1_readLacing 10 (some .int) :: wsL_law
theorem wsX1_readLacing_i : ∀ w ∈ wsX1_readLacing, w ∈ wsL_law := inC u_731
def wsX4_hasRoom : List Cond := .code yX4_hasRoom cX4_hasRoom 3 (some .boolean) :: wsL_law
theorem wsX4_hasRoom_i : ∀ w ∈ wsX4_hasRoom, w ∈ wsL_law := inC u_150
def wsX8_change : List Cond := .code yX8_change cX8_change 4 (some .boolean) :: wsL_law
theorem wsX8_change_i : ∀ w ∈ wsX8_change, w ∈ wsL_law := inC u_125
def wsX8_add : List Cond := .code yX8_add cX8_add 2 none :: wsL_law
theorem wsX8_add_i : ∀ w ∈ wsX8_add, w ∈ wsL_law := inC u_119
def wsX8_addPart : List Cond := .code yX8_addPart cX8_addPart 5 none :: wsL_law
theorem wsX8_addPart_i : ∀ w ∈ wsX8_addPart, w ∈ wsL_law := inC u_156
def wsX4_endPacket : List Cond := .code yX4_endPacket cX4_endPacket 3 none :: wsL_law
theorem wsX4_endPacket_i : ∀ w ∈ wsX4_endPacket, w ∈ wsL_law := inC u_164
def wsX1_takePackets : List Cond := .code yX1_takePackets cX1_takePackets 6 none :: wsL_law
theorem wsX1_takePackets_i : ∀ w ∈ wsX1_takePackets, w ∈ wsL_law := inC u_749
def wsX1_readBlock : List Cond := .code yX1_readBlock cX1_readBlock 11 (some .int) :: wsL_law
theorem wsX1_readBlock_i : ∀ w ∈ wsX1_readBlock, w ∈ wsL_law := inC u_725
def wsX1_readElement : List Cond := .code yX1_readElement cX1_readElement 7 (some .int) :: wsL_law
theorem wsX1_readElement_i : ∀ w ∈ wsX1_readElement, w ∈ wsL_law := inC u_615
def wsX1_read : List Cond := .code yX1_read cX1_read 7 none :: wsL_law
theorem wsX1_read_i : ∀ w ∈ wsX1_read, w ∈ wsL_law := inC u_586
def wsX8_init : List Cond := .code yX8_init cX8_init 2 none :: wsL_law
theorem wsX8_init_i : ∀ w ∈ wsX8_init, w ∈ wsL_law := inC u_44
def wsX2_init : List Cond := .code yX2_init cX2_init 1 none :: wsL_law
theorem wsX2_init_i : ∀ w ∈ wsX2_init, w ∈ wsL_law := inC u_70
def wsX8_addEach : List Cond := .code yX8_addEach cX8_addEach 3 none :: wsL_law
theorem wsX8_addEach_i : ∀ w ∈ wsX8_addEach, w ∈ wsL_law := inC u_333
def wsX8_addHighFirst : List Cond := .code yX8_addHighFirst cX8_addHighFirst 5 none :: wsL_law
theorem wsX8_addHighFirst_i : ∀ w ∈ wsX8_addHighFirst, w ∈ wsL_law := inC u_115
def wsX2_beginLongElement : List Cond := .code yX2_beginLongElement cX2_beginLongElement 2 (some .int) :: wsL_law
theorem wsX2_beginLongElement_i : ∀ w ∈ wsX2_beginLongElement, w ∈ wsL_law := inC u_337
def wsX4_holds : List Cond := .code yX4_holds cX4_holds 2 (some .boolean) :: wsL_law
theorem wsX4_holds_i : ∀ w ∈ wsX4_holds, w ∈ wsL_law := inC u_209
def wsX4_timeOf : List Cond := .code yX4_timeOf cX4_timeOf 2 (some .long) :: wsL_law
theorem wsX4_timeOf_i : ∀ w ∈ wsX4_timeOf, w ∈ wsL_law := inC u_205
def wsX4_timeToWrite : List Cond := .code yX4_timeToWrite cX4_timeToWrite 3 (some .long) :: wsL_law
theorem wsX4_timeToWrite_i : ∀ w ∈ wsX4_timeToWrite, w ∈ wsL_law := inC u_257
def wsX2_fitsBlock : List Cond := .code yX2_fitsBlock cX2_fitsBlock 2 (some .boolean) :: wsL_law
theorem wsX2_fitsBlock_i : ∀ w ∈ wsX2_fitsBlock, w ∈ wsL_law := inC u_350
def wsX2_endLongElement : List Cond := .code yX2_endLongElement cX2_endLongElement 4 none :: wsL_law
theorem wsX2_endLongElement_i : ∀ w ∈ wsX2_endLongElement, w ∈ wsL_law := inC u_356
def wsX2_putSize : List Cond := .code yX2_putSize cX2_putSize 4 none :: wsL_law
theorem wsX2_putSize_i : ∀ w ∈ wsX2_putSize, w ∈ wsL_law := inC u_365
def wsX2_putClusterTime : List Cond := .code yX2_putClusterTime cX2_putClusterTime 5 none :: wsL_law
theorem wsX2_putClusterTime_i : ∀ w ∈ wsX2_putClusterTime, w ∈ wsL_law := inC u_362
def wsX4_beginOf : List Cond := .code yX4_beginOf cX4_beginOf 2 (some .int) :: wsL_law
theorem wsX4_beginOf_i : ∀ w ∈ wsX4_beginOf, w ∈ wsL_law := inC u_235
def wsX4_bytesOf : List Cond := .code yX4_bytesOf cX4_bytesOf 2 (some .int) :: wsL_law
theorem wsX4_bytesOf_i : ∀ w ∈ wsX4_bytesOf, w ∈ wsL_law := inC u_231
def wsX2_packetsOfBlock : List Cond := .code yX2_packetsOfBlock cX2_packetsOfBlock 4 (some .int) :: wsL_law
theorem wsX2_packetsOfBlock_i : ∀ w ∈ wsX2_packetsOfBlock, w ∈ wsL_law := inC u_374
def wsX8_empty : List Cond := .code yX8_empty cX8_empty 1 none :: wsL_law
theorem wsX8_empty_i : ∀ w ∈ wsX8_empty, w ∈ wsL_law := inC u_168
def wsX2_putSummedSize : List Cond := .code yX2_putSummedSize cX2_putSummedSize 4 none :: wsL_law
theorem wsX2_putSummedSize_i : ∀ w ∈ wsX2_putSummedSize, w ∈ wsL_law := inC u_385
def wsX2_putDifference : List Cond := .code yX2_putDifference cX2_putDifference 6 none :: wsL_law
theorem wsX2_putDifference_i : ∀ w ∈ wsX2_putDifference, w ∈ wsL_law := inC u_389
def wsX2_putBlock : List Cond := .code yX2_putBlock cX2_putBlock 8 none :: wsL_law
theorem wsX2_putBlock_i : ∀ w ∈ wsX2_putBlock, w ∈ wsL_law := inC u_379
def wsX2_putClusters : List Cond := .code yX2_putClusters cX2_putClusters 11 none :: wsL_law
theorem wsX2_putClusters_i : ∀ w ∈ wsX2_putClusters, w ∈ wsL_law := inC u_344
def wsX2_write : List Cond := .code yX2_write cX2_write 8 none :: wsL_law
theorem wsX2_write_i : ∀ w ∈ wsX2_write, w ∈ wsL_law := inC u_319
def wsX4_init : List Cond := .code yX4_init cX4_init 1 none :: wsL_law
theorem wsX4_init_i : ∀ w ∈ wsX4_init, w ∈ wsL_law := inC u_54
def wsX4_empty : List Cond := .code yX4_empty cX4_empty 1 none :: wsL_law
theorem wsX4_empty_i : ∀ w ∈ wsX4_empty, w ∈ wsL_law := inC u_184
def wsX4_byteOf : List Cond := .code yX4_byteOf cX4_byteOf 3 (some .int) :: wsL_law
theorem wsX4_byteOf_i : ∀ w ∈ wsX4_byteOf, w ∈ wsL_law := inC u_910
def wsX4_isInOrderOfTime : List Cond := .code yX4_isInOrderOfTime cX4_isInOrderOfTime 4 (some .boolean) :: wsL_law
theorem wsX4_isInOrderOfTime_i : ∀ w ∈ wsX4_isInOrderOfTime, w ∈ wsL_law := inC u_197
def wsX5_isMarked : List Cond := .code yX5_isMarked cX5_isMarked 2 (some .boolean) :: wsL_law
theorem wsX5_isMarked_i : ∀ w ∈ wsX5_isMarked, w ∈ wsL_law := inC u_463
def wsX5_endOf : List Cond := .code yX5_endOf cX5_endOf 6 (some .int) :: wsL_law
theorem wsX5_endOf_i : ∀ w ∈ wsX5_endOf, w ∈ wsL_law := inC u_472
def wsX5_sumOf : List Cond := .code yX5_sumOf cX5_sumOf 7 (some .int) :: wsL_law
theorem wsX5_sumOf_i : ∀ w ∈ wsX5_sumOf, w ∈ wsL_law := inC u_269
def wsX5_makeSumRight : List Cond := .code yX5_makeSumRight cX5_makeSumRight 5 none :: wsL_law
theorem wsX5_makeSumRight_i : ∀ w ∈ wsX5_makeSumRight, w ∈ wsL_law := inC u_266
def wsX6_init : List Cond := .code yX6_init cX6_init 1 none :: wsL_law
theorem wsX6_init_i : ∀ w ∈ wsX6_init, w ∈ wsL_law := inC u_67
def wsX8_lowFirst : List Cond := .code yX8_lowFirst cX8_lowFirst 6 (some .long) :: wsL_law
theorem wsX8_lowFirst_i : ∀ w ∈ wsX8_lowFirst, w ∈ wsL_law := inC u_481
def wsX6_numberAt : List Cond := .code yX6_numberAt cX6_numberAt 2 (some .int) :: wsL_law
theorem wsX6_numberAt_i : ∀ w ∈ wsX6_numberAt, w ∈ wsL_law := inC u_477
def wsX6_isOutOfOrder : List Cond := .code yX6_isOutOfOrder cX6_isOutOfOrder 4 (some .boolean) :: wsL_law
theorem wsX6_isOutOfOrder_i : ∀ w ∈ wsX6_isOutOfOrder, w ∈ wsL_law := inC u_485
def wsX6_packetsEnding : List Cond := .code yX6_packetsEnding cX6_packetsEnding 5 (some .int) :: wsL_law
theorem wsX6_packetsEnding_i : ∀ w ∈ wsX6_packetsEnding, w ∈ wsL_law := inC u_490
def wsX6_isTimeWrong : List Cond := .code yX6_isTimeWrong cX6_isTimeWrong 4 (some .boolean) :: wsL_law
theorem wsX6_isTimeWrong_i : ∀ w ∈ wsX6_isTimeWrong, w ∈ wsL_law := inC u_494
def wsX6_faultOf : List Cond := .code yX6_faultOf cX6_faultOf 6 (some .int) :: wsL_law
theorem wsX6_faultOf_i : ∀ w ∈ wsX6_faultOf, w ∈ wsL_law := inC u_460
def wsX6_takePage : List Cond := .code yX6_takePage cX6_takePage 9 (some .int) :: wsL_law
theorem wsX6_takePage_i : ∀ w ∈ wsX6_takePage, w ∈ wsL_law := inC u_501
def wsX6_faultAtEnd : List Cond := .code yX6_faultAtEnd cX6_faultAtEnd 1 (some .int) :: wsL_law
theorem wsX6_faultAtEnd_i : ∀ w ∈ wsX6_faultAtEnd, w ∈ wsL_law := inC u_508
def wsX6_read : List Cond := .code yX6_read cX6_read 6 none :: wsL_law
theorem wsX6_read_i : ∀ w ∈ wsX6_read, w ∈ wsL_law := inC u_447
def wsX7_init : List Cond := .code yX7_init cX7_init 1 none :: wsL_law
theorem wsX7_init_i : ∀ w ∈ wsX7_init, w ∈ wsL_law := inC u_63
def wsX7_beginPage : List Cond := .code yX7_beginPage cX7_beginPage 1 none :: wsL_law
theorem wsX7_beginPage_i : ∀ w ∈ wsX7_beginPage, w ∈ wsL_law := inC u_227
def wsX7_addSegment : List Cond := .code yX7_addSegment cX7_addSegment 2 none :: wsL_law
theorem wsX7_addSegment_i : ∀ w ∈ wsX7_addSegment, w ∈ wsL_law := inC u_239
def wsX8_addLowFirst : List Cond := .code yX8_addLowFirst cX8_addLowFirst 5 none :: wsL_law
theorem wsX8_addLowFirst_i : ∀ w ∈ wsX8_addLowFirst, w ∈ wsL_law := inC u_261
def wsX7_putHeader : List Cond := .code yX7_putHeader cX7_putHeader 3 none :: wsL_law
theorem wsX7_putHeader_i : ∀ w ∈ wsX7_putHeader, w ∈ wsL_law := inC u_249
def wsX7_endPage : List Cond := .code yX7_endPage cX7_endPage 6 none :: wsL_law
theorem wsX7_endPage_i : ∀ w ∈ wsX7_endPage, w ∈ wsL_law := inC u_243
def wsX7_write : List Cond := .code yX7_write cX7_write 9 none :: wsL_law
theorem wsX7_write_i : ∀ w ∈ wsX7_write, w ∈ wsL_law := inC u_213
def wsX8_becomeLike : List Cond := .code yX8_becomeLike cX8_becomeLike 2 none :: wsL_law
theorem wsX8_becomeLike_i : ∀ w ∈ wsX8_becomeLike, w ∈ wsL_law := inC u_865
def wsX9_init : List Cond := .code yX9_init cX9_init 1 none :: wsL_law
theorem wsX9_init_i : ∀ w ∈ wsX9_init, w ∈ wsL_law := inC u_9
def wsX9_feed : List Cond := .code yX9_feed cX9_feed 6 (some .int) :: wsL_law
theorem wsX9_feed_i : ∀ w ∈ wsX9_feed, w ∈ wsL_law := inC u_110
def wsX9_isOnTape : List Cond := .code yX9_isOnTape cX9_isOnTape 2 (some .boolean) :: wsL_law
theorem wsX9_isOnTape_i : ∀ w ∈ wsX9_isOnTape, w ∈ wsL_law := inC u_146
def wsX9_packet : List Cond := .code yX9_packet cX9_packet 5 (some .int) :: wsL_law
theorem wsX9_packet_i : ∀ w ∈ wsX9_packet, w ∈ wsL_law := inC u_138
def wsX9_clear : List Cond := .code yX9_clear cX9_clear 2 (some .int) :: wsL_law
theorem wsX9_clear_i : ∀ w ∈ wsX9_clear, w ∈ wsL_law := inC u_180
def wsX9_takeSpareRow : List Cond := .code yX9_takeSpareRow cX9_takeSpareRow 2 (some .int) :: wsL_law
theorem wsX9_takeSpareRow_i : ∀ w ∈ wsX9_takeSpareRow, w ∈ wsL_law := inC u_276
def wsX9_pages : List Cond := .code yX9_pages cX9_pages 4 (some .int) :: wsL_law
theorem wsX9_pages_i : ∀ w ∈ wsX9_pages, w ∈ wsL_law := inC u_193
def wsX9_elements : List Cond := .code yX9_elements cX9_elements 5 (some .int) :: wsL_law
theorem wsX9_elements_i : ∀ w ∈ wsX9_elements, w ∈ wsL_law := inC u_315
def wsX9_takeSpareList : List Cond := .code yX9_takeSpareList cX9_takeSpareList 2 (some .int) :: wsL_law
theorem wsX9_takeSpareList_i : ∀ w ∈ wsX9_takeSpareList, w ∈ wsL_law := inC u_512
def wsX9_readPages : List Cond := .code yX9_readPages cX9_readPages 2 (some .int) :: wsL_law
theorem wsX9_readPages_i : ∀ w ∈ wsX9_readPages, w ∈ wsL_law := inC u_439
def wsX9_readElements : List Cond := .code yX9_readElements cX9_readElements 2 (some .int) :: wsL_law
theorem wsX9_readElements_i : ∀ w ∈ wsX9_readElements, w ∈ wsL_law := inC u_576
def wsX9_wrong : List Cond := .code yX9_wrong cX9_wrong 2 (some .int) :: wsL_law
theorem wsX9_wrong_i : ∀ w ∈ wsX9_wrong, w ∈ wsL_law := inC u_853
def wsX9_turn : List Cond := .code yX9_turn cX9_turn 1 (some .int) :: wsL_law
theorem wsX9_turn_i : ∀ w ∈ wsX9_turn, w ∈ wsL_law := inC u_861
def wsX9_count : List Cond := .code yX9_count cX9_count 2 (some .int) :: wsL_law
theorem wsX9_count_i : ∀ w ∈ wsX9_count, w ∈ wsL_law := inC u_880
def wsX9_size : List Cond := .code yX9_size cX9_size 2 (some .int) :: wsL_law
theorem wsX9_size_i : ∀ w ∈ wsX9_size, w ∈ wsL_law := inC u_888
def wsX9_time : List Cond := .code yX9_time cX9_time 2 (some .long) :: wsL_law
theorem wsX9_time_i : ∀ w ∈ wsX9_time, w ∈ wsL_law := inC u_897
def wsX9_octet : List Cond := .code yX9_octet cX9_octet 3 (some .int) :: wsL_law
theorem wsX9_octet_i : ∀ w ∈ wsX9_octet, w ∈ wsL_law := inC u_906
def wsX9_out : List Cond := .code yX9_out cX9_out 2 (some .int) :: wsL_law
theorem wsX9_out_i : ∀ w ∈ wsX9_out, w ∈ wsL_law := inC u_920
def wsX9_patch : List Cond := .code yX9_patch cX9_patch 3 (some .boolean) :: wsL_law
theorem wsX9_patch_i : ∀ w ∈ wsX9_patch, w ∈ wsL_law := inC u_929
def wsX9_sum : List Cond := .code yX9_sum cX9_sum 3 (some .boolean) :: wsL_law
theorem wsX9_sum_i : ∀ w ∈ wsX9_sum, w ∈ wsL_law := inC u_938
def wsX10_init : List Cond := .code yX10_init cX10_init 1 none :: wsL_law
theorem wsX10_init_i : ∀ w ∈ wsX10_init, w ∈ wsL_law := inC u_89
def wsX10_four : List Cond := .code yX10_four cX10_four 3 none :: wsL_law
theorem wsX10_four_i : ∀ w ∈ wsX10_four, w ∈ wsL_law := inC u_134
def wsX10_feed : List Cond := .code yX10_feed cX10_feed 6 (some .int) :: wsL_law
theorem wsX10_feed_i : ∀ w ∈ wsX10_feed, w ∈ wsL_law := inC u_129
def wsX10_at : List Cond := .code yX10_at cX10_at 2 (some .int) :: wsL_law
theorem wsX10_at_i : ∀ w ∈ wsX10_at, w ∈ wsL_law := inC u_547
def wsX10_packet : List Cond := .code yX10_packet cX10_packet 5 (some .int) :: wsL_law
theorem wsX10_packet_i : ∀ w ∈ wsX10_packet, w ∈ wsL_law := inC u_172
def wsX10_clear : List Cond := .code yX10_clear cX10_clear 2 (some .int) :: wsL_law
theorem wsX10_clear_i : ∀ w ∈ wsX10_clear, w ∈ wsL_law := inC u_189
def wsX10_timeOf : List Cond := .code yX10_timeOf cX10_timeOf 3 (some .long) :: wsL_law
theorem wsX10_timeOf_i : ∀ w ∈ wsX10_timeOf, w ∈ wsL_law := inC u_291
def wsX10_takeList : List Cond := .code yX10_takeList cX10_takeList 2 none :: wsL_law
theorem wsX10_takeList_i : ∀ w ∈ wsX10_takeList, w ∈ wsL_law := inC u_572
def wsX10_put : List Cond := .code yX10_put cX10_put 2 none :: wsL_law
theorem wsX10_put_i : ∀ w ∈ wsX10_put, w ∈ wsL_law := inC u_287
def wsX10_putLow : List Cond := .code yX10_putLow cX10_putLow 5 none :: wsL_law
theorem wsX10_putLow_i : ∀ w ∈ wsX10_putLow, w ∈ wsL_law := inC u_295
def wsX10_putHigh : List Cond := .code yX10_putHigh cX10_putHigh 5 none :: wsL_law
theorem wsX10_putHigh_i : ∀ w ∈ wsX10_putHigh, w ∈ wsL_law := inC u_411
def wsX10_putRow : List Cond := .code yX10_putRow cX10_putRow 3 none :: wsL_law
theorem wsX10_putRow_i : ∀ w ∈ wsX10_putRow, w ∈ wsL_law := inC u_407
def wsX10_drawn : List Cond := .code yX10_drawn cX10_drawn 2 (some .int) :: wsL_law
theorem wsX10_drawn_i : ∀ w ∈ wsX10_drawn, w ∈ wsL_law := inC u_310
def wsX10_sumOf : List Cond := .code yX10_sumOf cX10_sumOf 7 (some .int) :: wsL_law
theorem wsX10_sumOf_i : ∀ w ∈ wsX10_sumOf, w ∈ wsL_law := inC u_305
def wsX10_putSum : List Cond := .code yX10_putSum cX10_putSum 5 none :: wsL_law
theorem wsX10_putSum_i : ∀ w ∈ wsX10_putSum, w ∈ wsL_law := inC u_302
def wsX10_segmentsFrom : List Cond := .code yX10_segmentsFrom cX10_segmentsFrom 8 none :: wsL_law
theorem wsX10_segmentsFrom_i : ∀ w ∈ wsX10_segmentsFrom, w ∈ wsL_law := inC u_299
def wsX10_pages : List Cond := .code yX10_pages cX10_pages 20 (some .int) :: wsL_law
theorem wsX10_pages_i : ∀ w ∈ wsX10_pages, w ∈ wsL_law := inC u_281
def wsX10_fails : List Cond := .code yX10_fails cX10_fails 3 (some .boolean) :: wsL_law
theorem wsX10_fails_i : ∀ w ∈ wsX10_fails, w ∈ wsL_law := inC u_533
def wsX10_low : List Cond := .code yX10_low cX10_low 6 (some .long) :: wsL_law
theorem wsX10_low_i : ∀ w ∈ wsX10_low, w ∈ wsL_law := inC u_559
def wsX10_begin : List Cond := .code yX10_begin cX10_begin 1 none :: wsL_law
theorem wsX10_begin_i : ∀ w ∈ wsX10_begin, w ∈ wsL_law := inC u_526
def wsX10_ends : List Cond := .code yX10_ends cX10_ends 2 (some .int) :: wsL_law
theorem wsX10_ends_i : ∀ w ∈ wsX10_ends, w ∈ wsL_law := inC u_567
def wsX10_isMark : List Cond := .code yX10_isMark cX10_isMark 2 (some .boolean) :: wsL_law
theorem wsX10_isMark_i : ∀ w ∈ wsX10_isMark, w ∈ wsL_law := inC u_543
def wsX10_lengthOf : List Cond := .code yX10_lengthOf cX10_lengthOf 4 (some .int) :: wsL_law
theorem wsX10_lengthOf_i : ∀ w ∈ wsX10_lengthOf, w ∈ wsL_law := inC u_555
def wsX10_isWhole : List Cond := .code yX10_isWhole cX10_isWhole 3 (some .boolean) :: wsL_law
theorem wsX10_isWhole_i : ∀ w ∈ wsX10_isWhole, w ∈ wsL_law := inC u_551
def wsX10_packets : List Cond := .code yX10_packets cX10_packets 16 (some .boolean) :: wsL_law
theorem wsX10_packets_i : ∀ w ∈ wsX10_packets, w ∈ wsL_law := inC u_563
def wsX10_page : List Cond := .code yX10_page cX10_page 8 (some .boolean) :: wsL_law
theorem wsX10_page_i : ∀ w ∈ wsX10_page, w ∈ wsL_law := inC u_537
def wsX10_readPages : List Cond := .code yX10_readPages cX10_readPages 4 (some .int) :: wsL_law
theorem wsX10_readPages_i : ∀ w ∈ wsX10_readPages, w ∈ wsL_law := inC u_516
def wsX10_lengthBy : List Cond := .code yX10_lengthBy cX10_lengthBy 3 (some .int) :: wsL_law
theorem wsX10_lengthBy_i : ∀ w ∈ wsX10_lengthBy, w ∈ wsL_law := inC u_782
def wsX10_sizeAt : List Cond := .code yX10_sizeAt cX10_sizeAt 6 (some .long) :: wsL_law
theorem wsX10_sizeAt_i : ∀ w ∈ wsX10_sizeAt, w ∈ wsL_law := inC u_804
def wsX10_bitOfHead : List Cond := .code yX10_bitOfHead cX10_bitOfHead 1 (some .int) :: wsL_law
theorem wsX10_bitOfHead_i : ∀ w ∈ wsX10_bitOfHead, w ∈ wsL_law := inC u_795
def wsX10_mayStand : List Cond := .code yX10_mayStand cX10_mayStand 3 (some .boolean) :: wsL_law
theorem wsX10_mayStand_i : ∀ w ∈ wsX10_mayStand, w ∈ wsL_law := inC u_786
def wsX10_name : List Cond := .code yX10_name cX10_name 8 (some .boolean) :: wsL_law
theorem wsX10_name_i : ∀ w ∈ wsX10_name, w ∈ wsL_law := inC u_779
def wsX10_head : List Cond := .code yX10_head cX10_head 8 (some .boolean) :: wsL_law
theorem wsX10_head_i : ∀ w ∈ wsX10_head, w ∈ wsL_law := inC u_799
def wsX10_bit : List Cond := .code yX10_bit cX10_bit 2 (some .int) :: wsL_law
theorem wsX10_bit_i : ∀ w ∈ wsX10_bit, w ∈ wsL_law := inC u_808
def wsX10_isCluster : List Cond := .code yX10_isCluster cX10_isCluster 3 (some .boolean) :: wsL_law
theorem wsX10_isCluster_i : ∀ w ∈ wsX10_isCluster, w ∈ wsL_law := inC u_775
def wsX10_sortOf : List Cond := .code yX10_sortOf cX10_sortOf 1 (some .int) :: wsL_law
theorem wsX10_sortOf_i : ∀ w ∈ wsX10_sortOf, w ∈ wsL_law := inC u_812
def wsX10_uint : List Cond := .code yX10_uint cX10_uint 4 (some .long) :: wsL_law
theorem wsX10_uint_i : ∀ w ∈ wsX10_uint, w ∈ wsL_law := inC u_830
def wsX10_isWithin : List Cond := .code yX10_isWithin cX10_isWithin 8 (some .boolean) :: wsL_law
theorem wsX10_isWithin_i : ∀ w ∈ wsX10_isWithin, w ∈ wsL_law := inC u_826
def wsX10_isMatroska : List Cond := .code yX10_isMatroska cX10_isMatroska 4 (some .boolean) :: wsL_law
theorem wsX10_isMatroska_i : ∀ w ∈ wsX10_isMatroska, w ∈ wsL_law := inC u_835
def wsX10_laced : List Cond := .code yX10_laced cX10_laced 9 (some .int) :: wsL_law
theorem wsX10_laced_i : ∀ w ∈ wsX10_laced, w ∈ wsL_law := inC u_844
def wsX10_block : List Cond := .code yX10_block cX10_block 13 (some .boolean) :: wsL_law
theorem wsX10_block_i : ∀ w ∈ wsX10_block, w ∈ wsL_law := inC u_840
def wsX10_plain : List Cond := .code yX10_plain cX10_plain 4 (some .boolean) :: wsL_law
theorem wsX10_plain_i : ∀ w ∈ wsX10_plain, w ∈ wsL_law := inC u_816
def wsX10_has : List Cond := .code yX10_has cX10_has 5 (some .boolean) :: wsL_law
theorem wsX10_has_i : ∀ w ∈ wsX10_has, w ∈ wsL_law := inC u_849
def wsX10_elements : List Cond := .code yX10_elements cX10_elements 12 (some .boolean) :: wsL_law
theorem wsX10_elements_i : ∀ w ∈ wsX10_elements, w ∈ wsL_law := inC u_764
def wsX10_readElements : List Cond := .code yX10_readElements cX10_readElements 3 (some .int) :: wsL_law
theorem wsX10_readElements_i : ∀ w ∈ wsX10_readElements, w ∈ wsL_law := inC u_756
def wsX10_wrong : List Cond := .code yX10_wrong cX10_wrong 2 (some .int) :: wsL_law
theorem wsX10_wrong_i : ∀ w ∈ wsX10_wrong, w ∈ wsL_law := inC u_857
def wsX10_sizeLength : List Cond := .code yX10_sizeLength cX10_sizeLength 3 (some .int) :: wsL_law
theorem wsX10_sizeLength_i : ∀ w ∈ wsX10_sizeLength, w ∈ wsL_law := inC u_428
def wsX10_putSize : List Cond := .code yX10_putSize cX10_putSize 4 none :: wsL_law
theorem wsX10_putSize_i : ∀ w ∈ wsX10_putSize, w ∈ wsL_law := inC u_435
def wsX10_later : List Cond := .code yX10_later cX10_later 2 (some .int) :: wsL_law
theorem wsX10_later_i : ∀ w ∈ wsX10_later, w ∈ wsL_law := inC u_415
def wsX10_tell : List Cond := .code yX10_tell cX10_tell 5 none :: wsL_law
theorem wsX10_tell_i : ∀ w ∈ wsX10_tell, w ∈ wsL_law := inC u_419
def wsX10_signedLength : List Cond := .code yX10_signedLength cX10_signedLength 3 (some .int) :: wsL_law
theorem wsX10_signedLength_i : ∀ w ∈ wsX10_signedLength, w ∈ wsL_law := inC u_431
def wsX10_putBlock : List Cond := .code yX10_putBlock cX10_putBlock 11 none :: wsL_law
theorem wsX10_putBlock_i : ∀ w ∈ wsX10_putBlock, w ∈ wsL_law := inC u_424
def wsX10_elements_ : List Cond := .code yX10_elements_ cX10_elements_ 18 (some .int) :: wsL_law
theorem wsX10_elements__i : ∀ w ∈ wsX10_elements_, w ∈ wsL_law := inC u_401
def wsX10_turn : List Cond := .code yX10_turn cX10_turn 2 (some .int) :: wsL_law
theorem wsX10_turn_i : ∀ w ∈ wsX10_turn, w ∈ wsL_law := inC u_876
def wsX10_count : List Cond := .code yX10_count cX10_count 2 (some .int) :: wsL_law
theorem wsX10_count_i : ∀ w ∈ wsX10_count, w ∈ wsL_law := inC u_884
def wsX10_size : List Cond := .code yX10_size cX10_size 2 (some .int) :: wsL_law
theorem wsX10_size_i : ∀ w ∈ wsX10_size, w ∈ wsL_law := inC u_893
def wsX10_time : List Cond := .code yX10_time cX10_time 2 (some .long) :: wsL_law
theorem wsX10_time_i : ∀ w ∈ wsX10_time, w ∈ wsL_law := inC u_902
def wsX10_octet : List Cond := .code yX10_octet cX10_octet 5 (some .int) :: wsL_law
theorem wsX10_octet_i : ∀ w ∈ wsX10_octet, w ∈ wsL_law := inC u_916
def wsX10_out : List Cond := .code yX10_out cX10_out 2 (some .int) :: wsL_law
theorem wsX10_out_i : ∀ w ∈ wsX10_out, w ∈ wsL_law := inC u_925
def wsX10_patch : List Cond := .code yX10_patch cX10_patch 3 (some .boolean) :: wsL_law
theorem wsX10_patch_i : ∀ w ∈ wsX10_patch, w ∈ wsL_law := inC u_934
def wsX10_sum : List Cond := .code yX10_sum cX10_sum 2 (some .boolean) :: wsL_law
theorem wsX10_sum_i : ∀ w ∈ wsX10_sum, w ∈ wsL_law := inC u_945
def wsJ9_abs_067f4 : List Cond := .code yJ9_abs_067f4 cJ9_abs_067f4 2 (some .long) :: wsL_law
def wsJ9_max_7cf53 : List Cond := .code yJ9_max_7cf53 cJ9_max_7cf53 2 (some .int) :: wsL_law
def wsJ9_max_f86c9 : List Cond := .code yJ9_max_f86c9 cJ9_max_f86c9 4 (some .long) :: wsL_law
def wsJ9_min_7cf53 : List Cond := .code yJ9_min_7cf53 cJ9_min_7cf53 2 (some .int) :: wsL_law
theorem inlX1 : ∀ w ∈ wsX10, w ∈ wsL_law := fun _ h => List.mem_append_left _ (List.mem_append_left _ (List.mem_append_right _ h))
theorem inlX2 : ∀ w ∈ wsX20, w ∈ wsL_law := fun _ h => List.mem_append_left _ (List.mem_append_left _ (List.mem_append_left _ (List.mem_append_right _ h)))
theorem inlX3 : ∀ w ∈ wsX30, w ∈ wsL_law := fun _ h => List.mem_append_left _ (List.mem_append_right _ h)
theorem inlX4 : ∀ w ∈ wsX40, w ∈ wsL_law := fun _ h => List.mem_append_left _ (List.mem_append_left _ (List.mem_append_left _ (List.mem_append_left _ (List.mem_append_left _ (List.mem_append_left _ (List.mem_append_right _ h))))))
theorem inlX6 : ∀ w ∈ wsX60, w ∈ wsL_law := fun _ h => List.mem_append_left _ (List.mem_append_left _ (List.mem_append_left _ (List.mem_append_left _ (List.mem_append_right _ h))))
theorem inlX7 : ∀ w ∈ wsX70, w ∈ wsL_law := fun _ h => List.mem_append_left _ (List.mem_append_left _ (List.mem_append_left _ (List.mem_append_left _ (List.mem_append_left _ (List.mem_append_right _ h)))))
theorem inlX8 : ∀ w ∈ wsX80, w ∈ wsL_law := fun _ h => List.mem_append_left _ (List.mem_append_left _ (List.mem_append_left _ (List.mem_append_left _ (List.mem_append_left _ (List.mem_append_left _ (List.mem_append_left _ (List.mem_append_right _ h)))))))
theorem inlX9 : ∀ w ∈ wsX90, w ∈ wsL_law := fun _ h => List.mem_append_left _ (List.mem_append_left _ (List.mem_append_left _ (List.mem_append_left _ (List.mem_append_left _ (List.mem_append_left _ (List.mem_append_left _ (List.mem_append_left _ (List.mem_append_left _ (List.mem_append_right _ h)))))))))
theorem inlX10 : ∀ w ∈ wsX100, w ∈ wsL_law := fun _ h => List.mem_append_left _ (List.mem_append_left _ (List.mem_append_left _ (List.mem_append_left _ (List.mem_append_left _ (List.mem_append_left _ (List.mem_append_left _ (List.mem_append_left _ (List.mem_append_right _ h))))))))
