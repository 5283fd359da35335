/-! ===== BEGIN printed: names, fields, word lists, decode rows ===== -/
def RX0 : String := "TwinVolumes$Blocks"
def TX0 : u_T := fun k => match k with
  | 0 => ("TwinVolumes$Blocks", "levels", "LTwinVolumes$IntRow;", true)
  | 1 => ("TwinVolumes$Blocks", "birthsOfBlocks", "LTwinVolumes$IntRow;", true)
  | 2 => ("TwinVolumes$Blocks", "tellers", "LTwinVolumes$IntRow;", true)
  | 3 => ("TwinVolumes$Blocks", "numbers", "LTwinVolumes$LongRow;", true)
  | 4 => ("TwinVolumes$Blocks", "told", "LTwinVolumes$IntRow;", true)
  | 5 => ("TwinVolumes$Blocks", "births", "LTwinVolumes$IntRow;", true)
  | 6 => ("TwinVolumes$Blocks", "loose", "LTwinVolumes$IntRow;", true)
  | 7 => ("TwinVolumes$Blocks", "looseCount", "I", false)
  | 8 => ("TwinVolumes$Blocks", "count", "I", false)
  | _ => ("TwinVolumes$Blocks", "free", "I", false)
def tyX0 : Nat → FieldType := fun k => match k with
  | 0 => .object "TwinVolumes$IntRow"
  | 1 => .object "TwinVolumes$IntRow"
  | 2 => .object "TwinVolumes$IntRow"
  | 3 => .object "TwinVolumes$LongRow"
  | 4 => .object "TwinVolumes$IntRow"
  | 5 => .object "TwinVolumes$IntRow"
  | 6 => .object "TwinVolumes$IntRow"
  | 7 => .int
  | 8 => .int
  | _ => .int
abbrev wsX00 : List Cond := u_ws RX0 TX0 10
theorem nmX0 : ∀ a, a < 10 → ∀ b, b < 10 → a ≠ b → (TX0 a).2.1 ≠ (TX0 b).2.1 := by decide +kernel
theorem tyX0_ok : ∀ k, k < 10 → parseFieldDescriptor (TX0 k).2.2.1 = some (tyX0 k) := by decide +kernel
abbrev cX0_init : ByteArray := prog_2_method_1_code
def yX0_init : MethodName := ⟨RX0, "<init>", "()V"⟩
abbrev cX0_startAnew : ByteArray := prog_2_method_2_code
def yX0_startAnew : MethodName := ⟨RX0, "startAnew", "(I)V"⟩
abbrev cX0_count : ByteArray := prog_2_method_3_code
def yX0_count : MethodName := ⟨RX0, "count", "()I"⟩
abbrev cX0_free : ByteArray := prog_2_method_4_code
def yX0_free : MethodName := ⟨RX0, "free", "()I"⟩
abbrev cX0_has : ByteArray := prog_2_method_5_code
def yX0_has : MethodName := ⟨RX0, "has", "(I)Z"⟩
abbrev cX0_level : ByteArray := prog_2_method_6_code
def yX0_level : MethodName := ⟨RX0, "level", "(I)I"⟩
abbrev cX0_birthOfBlock : ByteArray := prog_2_method_7_code
def yX0_birthOfBlock : MethodName := ⟨RX0, "birthOfBlock", "(I)I"⟩
abbrev cX0_tellers : ByteArray := prog_2_method_8_code
def yX0_tellers : MethodName := ⟨RX0, "tellers", "(I)I"⟩
abbrev cX0_number : ByteArray := prog_2_method_9_code
def yX0_number : MethodName := ⟨RX0, "number", "(I)J"⟩
abbrev cX0_putNumber : ByteArray := prog_2_method_10_code
def yX0_putNumber : MethodName := ⟨RX0, "putNumber", "(IJ)V"⟩
abbrev cX0_told : ByteArray := prog_2_method_11_code
def yX0_told : MethodName := ⟨RX0, "told", "(I)I"⟩
abbrev cX0_birth : ByteArray := prog_2_method_12_code
def yX0_birth : MethodName := ⟨RX0, "birth", "(I)I"⟩
abbrev cX0_slotIn : ByteArray := prog_2_method_13_code
def yX0_slotIn : MethodName := ⟨RX0, "slotIn", "(II)I"⟩
abbrev cX0_point : ByteArray := prog_2_method_14_code
def yX0_point : MethodName := ⟨RX0, "point", "(III)V"⟩
abbrev cX0_hasOnlyHoles : ByteArray := prog_2_method_15_code
def yX0_hasOnlyHoles : MethodName := ⟨RX0, "hasOnlyHoles", "(I)Z"⟩
abbrev cX0_wantsNewBlock : ByteArray := prog_2_method_16_code
def yX0_wantsNewBlock : MethodName := ⟨RX0, "wantsNewBlock", "(II)Z"⟩
abbrev cX0_renew : ByteArray := prog_2_method_17_code
def yX0_renew : MethodName := ⟨RX0, "renew", "(III)V"⟩
abbrev cX0_takeLeastFree : ByteArray := prog_2_method_18_code
def yX0_takeLeastFree : MethodName := ⟨RX0, "takeLeastFree", "()I"⟩
abbrev cX0_settle : ByteArray := prog_2_method_19_code
def yX0_settle : MethodName := ⟨RX0, "settle", "()V"⟩
def RX1 : String := "TwinVolumes$IntRow"
def TX1 : u_T := fun k => match k with
  | _ => ("TwinVolumes$IntRow", "cells", "[I", true)
def tyX1 : Nat → FieldType := fun k => match k with
  | _ => .array .int
abbrev wsX10 : List Cond := u_ws RX1 TX1 1
theorem nmX1 : ∀ a, a < 1 → ∀ b, b < 1 → a ≠ b → (TX1 a).2.1 ≠ (TX1 b).2.1 := by decide +kernel
theorem tyX1_ok : ∀ k, k < 1 → parseFieldDescriptor (TX1 k).2.2.1 = some (tyX1 k) := by decide +kernel
abbrev cX1_init : ByteArray := prog_3_method_1_code
def yX1_init : MethodName := ⟨RX1, "<init>", "(I)V"⟩
abbrev cX1_at : ByteArray := prog_3_method_2_code
def yX1_at : MethodName := ⟨RX1, "at", "(I)I"⟩
abbrev cX1_put : ByteArray := prog_3_method_3_code
def yX1_put : MethodName := ⟨RX1, "put", "(II)V"⟩
abbrev cX1_fill : ByteArray := prog_3_method_4_code
def yX1_fill : MethodName := ⟨RX1, "fill", "(I)V"⟩
def RX2 : String := "TwinVolumes$LongRow"
def TX2 : u_T := fun k => match k with
  | _ => ("TwinVolumes$LongRow", "cells", "[J", true)
def tyX2 : Nat → FieldType := fun k => match k with
  | _ => .array .long
abbrev wsX20 : List Cond := u_ws RX2 TX2 1
theorem nmX2 : ∀ a, a < 1 → ∀ b, b < 1 → a ≠ b → (TX2 a).2.1 ≠ (TX2 b).2.1 := by decide +kernel
theorem tyX2_ok : ∀ k, k < 1 → parseFieldDescriptor (TX2 k).2.2.1 = some (tyX2 k) := by decide +kernel
abbrev cX2_init : ByteArray := prog_4_method_1_code
def yX2_init : MethodName := ⟨RX2, "<init>", "(I)V"⟩
abbrev cX2_at : ByteArray := prog_4_method_2_code
def yX2_at : MethodName := ⟨RX2, "at", "(I)J"⟩
abbrev cX2_put : ByteArray := prog_4_method_3_code
def yX2_put : MethodName := ⟨RX2, "put", "(IJ)V"⟩
def RX3 : String := "TwinVolumes$Receiving"
def TX3 : u_T := fun k => match k with
  | 0 => ("TwinVolumes$Receiving", "volume", "LTwinVolumes$Volume;", true)
  | 1 => ("TwinVolumes$Receiving", "bytes", "LTwinVolumes$StreamBytes;", true)
  | 2 => ("TwinVolumes$Receiving", "position", "I", false)
  | 3 => ("TwinVolumes$Receiving", "received", "I", false)
  | _ => ("TwinVolumes$Receiving", "targetMark", "J", false)
def tyX3 : Nat → FieldType := fun k => match k with
  | 0 => .object "TwinVolumes$Volume"
  | 1 => .object "TwinVolumes$StreamBytes"
  | 2 => .int
  | 3 => .int
  | _ => .long
abbrev wsX30 : List Cond := u_ws RX3 TX3 5
theorem nmX3 : ∀ a, a < 5 → ∀ b, b < 5 → a ≠ b → (TX3 a).2.1 ≠ (TX3 b).2.1 := by decide +kernel
theorem tyX3_ok : ∀ k, k < 5 → parseFieldDescriptor (TX3 k).2.2.1 = some (tyX3 k) := by decide +kernel
abbrev cX3_init : ByteArray := prog_5_method_1_code
def yX3_init : MethodName := ⟨RX3, "<init>", "(LTwinVolumes$Volume;LTwinVolumes$StreamBytes;)V"⟩
abbrev cX3_received : ByteArray := prog_5_method_2_code
def yX3_received : MethodName := ⟨RX3, "received", "()I"⟩
abbrev cX3_forget : ByteArray := prog_5_method_3_code
def yX3_forget : MethodName := ⟨RX3, "forget", "()V"⟩
abbrev cX3_takeBegin : ByteArray := prog_5_method_4_code
def yX3_takeBegin : MethodName := ⟨RX3, "takeBegin", "()I"⟩
abbrev cX3_takeRecords : ByteArray := prog_5_method_5_code
def yX3_takeRecords : MethodName := ⟨RX3, "takeRecords", "(I)I"⟩
abbrev cX3_takeRecord : ByteArray := prog_5_method_6_code
def yX3_takeRecord : MethodName := ⟨RX3, "takeRecord", "()I"⟩
abbrev cX3_sizeOf : ByteArray := prog_5_method_7_code
def yX3_sizeOf : MethodName := ⟨RX3, "sizeOf", "(I)I"⟩
abbrev cX3_takeWrite : ByteArray := prog_5_method_8_code
def yX3_takeWrite : MethodName := ⟨RX3, "takeWrite", "()I"⟩
abbrev cX3_takeClear : ByteArray := prog_5_method_9_code
def yX3_takeClear : MethodName := ⟨RX3, "takeClear", "()I"⟩
abbrev cX3_takeEnd : ByteArray := prog_5_method_10_code
def yX3_takeEnd : MethodName := ⟨RX3, "takeEnd", "()I"⟩
def RX4 : String := "TwinVolumes$Sending"
def TX4 : u_T := fun k => match k with
  | 0 => ("TwinVolumes$Sending", "bytes", "LTwinVolumes$StreamBytes;", true)
  | 1 => ("TwinVolumes$Sending", "since", "I", false)
  | 2 => ("TwinVolumes$Sending", "writes", "I", false)
  | 3 => ("TwinVolumes$Sending", "clears", "I", false)
  | _ => ("TwinVolumes$Sending", "seen", "I", false)
def tyX4 : Nat → FieldType := fun k => match k with
  | 0 => .object "TwinVolumes$StreamBytes"
  | 1 => .int
  | 2 => .int
  | 3 => .int
  | _ => .int
abbrev wsX40 : List Cond := u_ws RX4 TX4 5
theorem nmX4 : ∀ a, a < 5 → ∀ b, b < 5 → a ≠ b → (TX4 a).2.1 ≠ (TX4 b).2.1 := by decide +kernel
theorem tyX4_ok : ∀ k, k < 5 → parseFieldDescriptor (TX4 k).2.2.1 = some (tyX4 k) := by decide +kernel
abbrev cX4_init : ByteArray := prog_6_method_1_code
def yX4_init : MethodName := ⟨RX4, "<init>", "(LTwinVolumes$StreamBytes;)V"⟩
abbrev cX4_writes : ByteArray := prog_6_method_2_code
def yX4_writes : MethodName := ⟨RX4, "writes", "()I"⟩
abbrev cX4_clears : ByteArray := prog_6_method_3_code
def yX4_clears : MethodName := ⟨RX4, "clears", "()I"⟩
abbrev cX4_seen : ByteArray := prog_6_method_4_code
def yX4_seen : MethodName := ⟨RX4, "seen", "()I"⟩
abbrev cX4_fillStream : ByteArray := prog_6_method_5_code
def yX4_fillStream : MethodName := ⟨RX4, "fillStream", "(LTwinVolumes$Volume;II)V"⟩
abbrev cX4_goOver : ByteArray := prog_6_method_6_code
def yX4_goOver : MethodName := ⟨RX4, "goOver", "(LTwinVolumes$Sending;LTwinVolumes$Blocks;III)V"⟩
def RX5 : String := "TwinVolumes$StreamBytes"
def TX5 : u_T := fun k => match k with
  | 0 => ("TwinVolumes$StreamBytes", "cells", "[B", true)
  | _ => ("TwinVolumes$StreamBytes", "length", "I", false)
def tyX5 : Nat → FieldType := fun k => match k with
  | 0 => .array .byte
  | _ => .int
abbrev wsX50 : List Cond := u_ws RX5 TX5 2
theorem nmX5 : ∀ a, a < 2 → ∀ b, b < 2 → a ≠ b → (TX5 a).2.1 ≠ (TX5 b).2.1 := by decide +kernel
theorem tyX5_ok : ∀ k, k < 2 → parseFieldDescriptor (TX5 k).2.2.1 = some (tyX5 k) := by decide +kernel
abbrev cX5_init : ByteArray := prog_7_method_1_code
def yX5_init : MethodName := ⟨RX5, "<init>", "()V"⟩
abbrev cX5_length : ByteArray := prog_7_method_2_code
def yX5_length : MethodName := ⟨RX5, "length", "()I"⟩
abbrev cX5_at : ByteArray := prog_7_method_3_code
def yX5_at : MethodName := ⟨RX5, "at", "(I)I"⟩
abbrev cX5_put : ByteArray := prog_7_method_4_code
def yX5_put : MethodName := ⟨RX5, "put", "(II)V"⟩
abbrev cX5_shorten : ByteArray := prog_7_method_5_code
def yX5_shorten : MethodName := ⟨RX5, "shorten", "(I)V"⟩
abbrev cX5_addBegin : ByteArray := prog_7_method_6_code
def yX5_addBegin : MethodName := ⟨RX5, "addBegin", "(JJ)V"⟩
abbrev cX5_addWrite : ByteArray := prog_7_method_7_code
def yX5_addWrite : MethodName := ⟨RX5, "addWrite", "(IJ)V"⟩
abbrev cX5_addClear : ByteArray := prog_7_method_8_code
def yX5_addClear : MethodName := ⟨RX5, "addClear", "(II)V"⟩
abbrev cX5_addEnd : ByteArray := prog_7_method_9_code
def yX5_addEnd : MethodName := ⟨RX5, "addEnd", "(I)V"⟩
abbrev cX5_addNumber : ByteArray := prog_7_method_10_code
def yX5_addNumber : MethodName := ⟨RX5, "addNumber", "(JI)V"⟩
abbrev cX5_numberAt : ByteArray := prog_7_method_11_code
def yX5_numberAt : MethodName := ⟨RX5, "numberAt", "(II)J"⟩
abbrev cX5_isWhole : ByteArray := prog_7_method_12_code
def yX5_isWhole : MethodName := ⟨RX5, "isWhole", "(II)Z"⟩
abbrev cX5_sumOf : ByteArray := prog_7_method_13_code
def yX5_sumOf : MethodName := ⟨RX5, "sumOf", "(II)J"⟩
def RX6 : String := "TwinVolumes$Volume"
def TX6 : u_T := fun k => match k with
  | 0 => ("TwinVolumes$Volume", "blocks", "LTwinVolumes$Blocks;", true)
  | 1 => ("TwinVolumes$Volume", "marks", "LTwinVolumes$LongRow;", true)
  | 2 => ("TwinVolumes$Volume", "generations", "LTwinVolumes$IntRow;", true)
  | 3 => ("TwinVolumes$Volume", "generation", "I", false)
  | 4 => ("TwinVolumes$Volume", "snapshots", "I", false)
  | _ => ("TwinVolumes$Volume", "busy", "Z", false)
def tyX6 : Nat → FieldType := fun k => match k with
  | 0 => .object "TwinVolumes$Blocks"
  | 1 => .object "TwinVolumes$LongRow"
  | 2 => .object "TwinVolumes$IntRow"
  | 3 => .int
  | 4 => .int
  | _ => .boolean
abbrev wsX60 : List Cond := u_ws RX6 TX6 6
theorem nmX6 : ∀ a, a < 6 → ∀ b, b < 6 → a ≠ b → (TX6 a).2.1 ≠ (TX6 b).2.1 := by decide +kernel
theorem tyX6_ok : ∀ k, k < 6 → parseFieldDescriptor (TX6 k).2.2.1 = some (tyX6 k) := by decide +kernel
abbrev cX6_init : ByteArray := prog_8_method_1_code
def yX6_init : MethodName := ⟨RX6, "<init>", "()V"⟩
abbrev cX6_startAnew : ByteArray := prog_8_method_2_code
def yX6_startAnew : MethodName := ⟨RX6, "startAnew", "(I)V"⟩
abbrev cX6_blocks : ByteArray := prog_8_method_3_code
def yX6_blocks : MethodName := ⟨RX6, "blocks", "()LTwinVolumes$Blocks;"⟩
abbrev cX6_generation : ByteArray := prog_8_method_4_code
def yX6_generation : MethodName := ⟨RX6, "generation", "()I"⟩
abbrev cX6_snapshots : ByteArray := prog_8_method_5_code
def yX6_snapshots : MethodName := ⟨RX6, "snapshots", "()I"⟩
abbrev cX6_isBusy : ByteArray := prog_8_method_6_code
def yX6_isBusy : MethodName := ⟨RX6, "isBusy", "()Z"⟩
abbrev cX6_hasSnapshot : ByteArray := prog_8_method_7_code
def yX6_hasSnapshot : MethodName := ⟨RX6, "hasSnapshot", "(I)Z"⟩
abbrev cX6_markOf : ByteArray := prog_8_method_8_code
def yX6_markOf : MethodName := ⟨RX6, "markOf", "(I)J"⟩
abbrev cX6_generationOf : ByteArray := prog_8_method_9_code
def yX6_generationOf : MethodName := ⟨RX6, "generationOf", "(I)I"⟩
abbrev cX6_settle : ByteArray := prog_8_method_10_code
def yX6_settle : MethodName := ⟨RX6, "settle", "()V"⟩
abbrev cX6_readPlace : ByteArray := prog_8_method_11_code
def yX6_readPlace : MethodName := ⟨RX6, "readPlace", "(II)J"⟩
abbrev cX6_writePlace : ByteArray := prog_8_method_12_code
def yX6_writePlace : MethodName := ⟨RX6, "writePlace", "(IIJ)Z"⟩
abbrev cX6_clearPlace : ByteArray := prog_8_method_13_code
def yX6_clearPlace : MethodName := ⟨RX6, "clearPlace", "(II)Z"⟩
abbrev cX6_makeHoleIfEmpty : ByteArray := prog_8_method_14_code
def yX6_makeHoleIfEmpty : MethodName := ⟨RX6, "makeHoleIfEmpty", "(I)V"⟩
abbrev cX6_slotToLevel : ByteArray := prog_8_method_15_code
def yX6_slotToLevel : MethodName := ⟨RX6, "slotToLevel", "(III)I"⟩
abbrev cX6_newBlocksWanted : ByteArray := prog_8_method_16_code
def yX6_newBlocksWanted : MethodName := ⟨RX6, "newBlocksWanted", "(III)I"⟩
abbrev cX6_keepLive : ByteArray := prog_8_method_17_code
def yX6_keepLive : MethodName := ⟨RX6, "keepLive", "(J)I"⟩
abbrev cX6_dropSnapshot : ByteArray := prog_8_method_18_code
def yX6_dropSnapshot : MethodName := ⟨RX6, "dropSnapshot", "(I)I"⟩
abbrev cX6_returnToLatest : ByteArray := prog_8_method_19_code
def yX6_returnToLatest : MethodName := ⟨RX6, "returnToLatest", "()I"⟩
abbrev cX6_isLatest : ByteArray := prog_8_method_20_code
def yX6_isLatest : MethodName := ⟨RX6, "isLatest", "(J)Z"⟩
abbrev cX6_hasMark : ByteArray := prog_8_method_21_code
def yX6_hasMark : MethodName := ⟨RX6, "hasMark", "(J)Z"⟩
abbrev cX6_isDirty : ByteArray := prog_8_method_22_code
def yX6_isDirty : MethodName := ⟨RX6, "isDirty", "()Z"⟩
abbrev cX6_makeHidden : ByteArray := prog_8_method_23_code
def yX6_makeHidden : MethodName := ⟨RX6, "makeHidden", "()V"⟩
abbrev cX6_dropHidden : ByteArray := prog_8_method_24_code
def yX6_dropHidden : MethodName := ⟨RX6, "dropHidden", "()V"⟩
abbrev cX6_keepHidden : ByteArray := prog_8_method_25_code
def yX6_keepHidden : MethodName := ⟨RX6, "keepHidden", "(J)V"⟩
def RX7 : String := "TwinVolumes"
def TX7 : u_T := fun k => match k with
  | 0 => ("TwinVolumes", "bytes", "LTwinVolumes$StreamBytes;", true)
  | 1 => ("TwinVolumes", "sending", "LTwinVolumes$Sending;", true)
  | 2 => ("TwinVolumes", "volumeZero", "LTwinVolumes$Volume;", true)
  | 3 => ("TwinVolumes", "volumeOne", "LTwinVolumes$Volume;", true)
  | 4 => ("TwinVolumes", "receivingZero", "LTwinVolumes$Receiving;", true)
  | 5 => ("TwinVolumes", "receivingOne", "LTwinVolumes$Receiving;", true)
  | _ => ("TwinVolumes", "nextMark", "J", false)
def tyX7 : Nat → FieldType := fun k => match k with
  | 0 => .object "TwinVolumes$StreamBytes"
  | 1 => .object "TwinVolumes$Sending"
  | 2 => .object "TwinVolumes$Volume"
  | 3 => .object "TwinVolumes$Volume"
  | 4 => .object "TwinVolumes$Receiving"
  | 5 => .object "TwinVolumes$Receiving"
  | _ => .long
abbrev wsX70 : List Cond := u_ws RX7 TX7 7
theorem nmX7 : ∀ a, a < 7 → ∀ b, b < 7 → a ≠ b → (TX7 a).2.1 ≠ (TX7 b).2.1 := by decide +kernel
theorem tyX7_ok : ∀ k, k < 7 → parseFieldDescriptor (TX7 k).2.2.1 = some (tyX7 k) := by decide +kernel
abbrev cX7_init : ByteArray := prog_1_method_1_code
def yX7_init : MethodName := ⟨RX7, "<init>", "()V"⟩
abbrev cX7_format : ByteArray := prog_1_method_2_code
def yX7_format : MethodName := ⟨RX7, "format", "(II)V"⟩
abbrev cX7_write : ByteArray := prog_1_method_3_code
def yX7_write : MethodName := ⟨RX7, "write", "(IIJ)I"⟩
abbrev cX7_clear : ByteArray := prog_1_method_4_code
def yX7_clear : MethodName := ⟨RX7, "clear", "(II)I"⟩
abbrev cX7_read : ByteArray := prog_1_method_5_code
def yX7_read : MethodName := ⟨RX7, "read", "(III)J"⟩
abbrev cX7_snapshot : ByteArray := prog_1_method_6_code
def yX7_snapshot : MethodName := ⟨RX7, "snapshot", "(I)I"⟩
abbrev cX7_destroy : ByteArray := prog_1_method_7_code
def yX7_destroy : MethodName := ⟨RX7, "destroy", "(II)I"⟩
abbrev cX7_rollback : ByteArray := prog_1_method_8_code
def yX7_rollback : MethodName := ⟨RX7, "rollback", "(I)I"⟩
abbrev cX7_send : ByteArray := prog_1_method_9_code
def yX7_send : MethodName := ⟨RX7, "send", "(III)I"⟩
abbrev cX7_receive : ByteArray := prog_1_method_10_code
def yX7_receive : MethodName := ⟨RX7, "receive", "(I)I"⟩
abbrev cX7_step : ByteArray := prog_1_method_11_code
def yX7_step : MethodName := ⟨RX7, "step", "(II)I"⟩
abbrev cX7_crash : ByteArray := prog_1_method_12_code
def yX7_crash : MethodName := ⟨RX7, "crash", "(I)Z"⟩
abbrev cX7_stream : ByteArray := prog_1_method_13_code
def yX7_stream : MethodName := ⟨RX7, "stream", "(I)I"⟩
abbrev cX7_patch : ByteArray := prog_1_method_14_code
def yX7_patch : MethodName := ⟨RX7, "patch", "(II)I"⟩
abbrev cX7_cut : ByteArray := prog_1_method_15_code
def yX7_cut : MethodName := ⟨RX7, "cut", "(I)V"⟩
abbrev cX7_snap : ByteArray := prog_1_method_16_code
def yX7_snap : MethodName := ⟨RX7, "snap", "(III)J"⟩
abbrev cX7_block : ByteArray := prog_1_method_17_code
def yX7_block : MethodName := ⟨RX7, "block", "(III)I"⟩
abbrev cX7_pointer : ByteArray := prog_1_method_18_code
def yX7_pointer : MethodName := ⟨RX7, "pointer", "(IIII)I"⟩
abbrev cX7_data : ByteArray := prog_1_method_19_code
def yX7_data : MethodName := ⟨RX7, "data", "(II)J"⟩
abbrev cX7_look : ByteArray := prog_1_method_20_code
def yX7_look : MethodName := ⟨RX7, "look", "(II)I"⟩
abbrev cX7_sent : ByteArray := prog_1_method_21_code
def yX7_sent : MethodName := ⟨RX7, "sent", "(I)I"⟩
abbrev cX7_find : ByteArray := prog_1_method_22_code
def yX7_find : MethodName := ⟨RX7, "find", "(I)LTwinVolumes$Volume;"⟩
abbrev cX7_receivingOf : ByteArray := prog_1_method_23_code
def yX7_receivingOf : MethodName := ⟨RX7, "receivingOf", "(I)LTwinVolumes$Receiving;"⟩
abbrev cX7_isPlace : ByteArray := prog_1_method_24_code
def yX7_isPlace : MethodName := ⟨RX7, "isPlace", "(I)Z"⟩
def RX8 : String := "TwinVolumesModel"
def TX8 : u_T := fun k => match k with
  | 0 => ("TwinVolumesModel", "thrown", "I", false)
  | 1 => ("TwinVolumesModel", "many", "[I", true)
  | 2 => ("TwinVolumesModel", "level", "[I", true)
  | 3 => ("TwinVolumesModel", "tells", "[I", true)
  | 4 => ("TwinVolumesModel", "birth", "[I", true)
  | 5 => ("TwinVolumesModel", "data", "[J", true)
  | 6 => ("TwinVolumesModel", "free", "[Z", true)
  | 7 => ("TwinVolumesModel", "treeTells", "[I", true)
  | 8 => ("TwinVolumesModel", "treeBirth", "[I", true)
  | 9 => ("TwinVolumesModel", "generation", "[I", true)
  | 10 => ("TwinVolumesModel", "snaps", "[I", true)
  | 11 => ("TwinVolumesModel", "snapGeneration", "[I", true)
  | 12 => ("TwinVolumesModel", "snapMark", "[J", true)
  | 13 => ("TwinVolumesModel", "busy", "[Z", true)
  | 14 => ("TwinVolumesModel", "at", "[I", true)
  | 15 => ("TwinVolumesModel", "received", "[I", true)
  | 16 => ("TwinVolumesModel", "target", "[J", true)
  | 17 => ("TwinVolumesModel", "nextMark", "J", false)
  | 18 => ("TwinVolumesModel", "stream", "[B", true)
  | 19 => ("TwinVolumesModel", "streamed", "I", false)
  | 20 => ("TwinVolumesModel", "records", "I", false)
  | 21 => ("TwinVolumesModel", "writes", "I", false)
  | 22 => ("TwinVolumesModel", "clears", "I", false)
  | 23 => ("TwinVolumesModel", "seen", "I", false)
  | 24 => ("TwinVolumesModel", "reached", "[Z", true)
  | 25 => ("TwinVolumesModel", "way", "[I", true)
  | _ => ("TwinVolumesModel", "recordFrom", "I", false)
def tyX8 : Nat → FieldType := fun k => match k with
  | 0 => .int
  | 1 => .array .int
  | 2 => .array .int
  | 3 => .array .int
  | 4 => .array .int
  | 5 => .array .long
  | 6 => .array .boolean
  | 7 => .array .int
  | 8 => .array .int
  | 9 => .array .int
  | 10 => .array .int
  | 11 => .array .int
  | 12 => .array .long
  | 13 => .array .boolean
  | 14 => .array .int
  | 15 => .array .int
  | 16 => .array .long
  | 17 => .long
  | 18 => .array .byte
  | 19 => .int
  | 20 => .int
  | 21 => .int
  | 22 => .int
  | 23 => .int
  | 24 => .array .boolean
  | 25 => .array .int
  | _ => .int
abbrev wsX80 : List Cond := u_ws RX8 TX8 27
theorem nmX8 : ∀ a, a < 27 → ∀ b, b < 27 → a ≠ b → (TX8 a).2.1 ≠ (TX8 b).2.1 := by decide +kernel
theorem tyX8_ok : ∀ k, k < 27 → parseFieldDescriptor (TX8 k).2.2.1 = some (tyX8 k) := by decide +kernel
abbrev cX8_init : ByteArray := prog_10_method_1_code
def yX8_init : MethodName := ⟨RX8, "<init>", "()V"⟩
abbrev cX8_thrown : ByteArray := prog_10_method_2_code
def yX8_thrown : MethodName := ⟨RX8, "thrown", "()I"⟩
abbrev cX8_isVolume : ByteArray := prog_10_method_3_code
def yX8_isVolume : MethodName := ⟨RX8, "isVolume", "(I)Z"⟩
abbrev cX8_fresh : ByteArray := prog_10_method_4_code
def yX8_fresh : MethodName := ⟨RX8, "fresh", "(II)V"⟩
abbrev cX8_format : ByteArray := prog_10_method_5_code
def yX8_format : MethodName := ⟨RX8, "format", "(II)V"⟩
abbrev cX8_told : ByteArray := prog_10_method_6_code
def yX8_told : MethodName := ⟨RX8, "told", "(II)I"⟩
abbrev cX8_born : ByteArray := prog_10_method_7_code
def yX8_born : MethodName := ⟨RX8, "born", "(II)I"⟩
abbrev cX8_point : ByteArray := prog_10_method_8_code
def yX8_point : MethodName := ⟨RX8, "point", "(IIII)V"⟩
abbrev cX8_turn : ByteArray := prog_10_method_9_code
def yX8_turn : MethodName := ⟨RX8, "turn", "(II)I"⟩
abbrev cX8_isTree : ByteArray := prog_10_method_10_code
def yX8_isTree : MethodName := ⟨RX8, "isTree", "(II)Z"⟩
abbrev cX8_sweeps : ByteArray := prog_10_method_11_code
def yX8_sweeps : MethodName := ⟨RX8, "sweeps", "(I)V"⟩
abbrev cX8_begins : ByteArray := prog_10_method_12_code
def yX8_begins : MethodName := ⟨RX8, "begins", "(I)V"⟩
abbrev cX8_freeMany : ByteArray := prog_10_method_13_code
def yX8_freeMany : MethodName := ⟨RX8, "freeMany", "(I)I"⟩
abbrev cX8_take : ByteArray := prog_10_method_14_code
def yX8_take : MethodName := ⟨RX8, "take", "(II)I"⟩
abbrev cX8_ways : ByteArray := prog_10_method_15_code
def yX8_ways : MethodName := ⟨RX8, "ways", "(III)I"⟩
abbrev cX8_wanted : ByteArray := prog_10_method_16_code
def yX8_wanted : MethodName := ⟨RX8, "wanted", "(III)I"⟩
abbrev cX8_renews : ByteArray := prog_10_method_17_code
def yX8_renews : MethodName := ⟨RX8, "renews", "(IIII)V"⟩
abbrev cX8_writes : ByteArray := prog_10_method_18_code
def yX8_writes : MethodName := ⟨RX8, "writes", "(IIIJ)I"⟩
abbrev cX8_hasNothing : ByteArray := prog_10_method_19_code
def yX8_hasNothing : MethodName := ⟨RX8, "hasNothing", "(II)Z"⟩
abbrev cX8_clears : ByteArray := prog_10_method_20_code
def yX8_clears : MethodName := ⟨RX8, "clears", "(III)I"⟩
abbrev cX8_isPlace : ByteArray := prog_10_method_21_code
def yX8_isPlace : MethodName := ⟨RX8, "isPlace", "(I)Z"⟩
abbrev cX8_write : ByteArray := prog_10_method_22_code
def yX8_write : MethodName := ⟨RX8, "write", "(IIJ)I"⟩
abbrev cX8_clear : ByteArray := prog_10_method_23_code
def yX8_clear : MethodName := ⟨RX8, "clear", "(II)I"⟩
abbrev cX8_isSnap : ByteArray := prog_10_method_24_code
def yX8_isSnap : MethodName := ⟨RX8, "isSnap", "(II)Z"⟩
abbrev cX8_read : ByteArray := prog_10_method_25_code
def yX8_read : MethodName := ⟨RX8, "read", "(III)J"⟩
abbrev cX8_snaps : ByteArray := prog_10_method_26_code
def yX8_snaps : MethodName := ⟨RX8, "snaps", "(IIJ)V"⟩
abbrev cX8_snapshot : ByteArray := prog_10_method_27_code
def yX8_snapshot : MethodName := ⟨RX8, "snapshot", "(I)I"⟩
abbrev cX8_destroy : ByteArray := prog_10_method_28_code
def yX8_destroy : MethodName := ⟨RX8, "destroy", "(II)I"⟩
abbrev cX8_rollback : ByteArray := prog_10_method_29_code
def yX8_rollback : MethodName := ⟨RX8, "rollback", "(I)I"⟩
abbrev cX8_put : ByteArray := prog_10_method_30_code
def yX8_put : MethodName := ⟨RX8, "put", "(JI)V"⟩
abbrev cX8_sumOf : ByteArray := prog_10_method_31_code
def yX8_sumOf : MethodName := ⟨RX8, "sumOf", "(II)J"⟩
abbrev cX8_ends : ByteArray := prog_10_method_32_code
def yX8_ends : MethodName := ⟨RX8, "ends", "()V"⟩
abbrev cX8_brings : ByteArray := prog_10_method_33_code
def yX8_brings : MethodName := ⟨RX8, "brings", "(IIIII)Z"⟩
abbrev cX8_send : ByteArray := prog_10_method_34_code
def yX8_send : MethodName := ⟨RX8, "send", "(III)I"⟩
abbrev cX8_number : ByteArray := prog_10_method_35_code
def yX8_number : MethodName := ⟨RX8, "number", "(II)J"⟩
abbrev cX8_isWhole : ByteArray := prog_10_method_36_code
def yX8_isWhole : MethodName := ⟨RX8, "isWhole", "(II)Z"⟩
abbrev cX8_receive : ByteArray := prog_10_method_37_code
def yX8_receive : MethodName := ⟨RX8, "receive", "(I)I"⟩
abbrev cX8_stops : ByteArray := prog_10_method_38_code
def yX8_stops : MethodName := ⟨RX8, "stops", "(I)V"⟩
abbrev cX8_endsHere : ByteArray := prog_10_method_39_code
def yX8_endsHere : MethodName := ⟨RX8, "endsHere", "(I)I"⟩
abbrev cX8_clearsHere : ByteArray := prog_10_method_40_code
def yX8_clearsHere : MethodName := ⟨RX8, "clearsHere", "(I)I"⟩
abbrev cX8_writesHere : ByteArray := prog_10_method_41_code
def yX8_writesHere : MethodName := ⟨RX8, "writesHere", "(I)I"⟩
abbrev cX8_record : ByteArray := prog_10_method_42_code
def yX8_record : MethodName := ⟨RX8, "record", "(I)I"⟩
abbrev cX8_step : ByteArray := prog_10_method_43_code
def yX8_step : MethodName := ⟨RX8, "step", "(II)I"⟩
abbrev cX8_crash : ByteArray := prog_10_method_44_code
def yX8_crash : MethodName := ⟨RX8, "crash", "(I)Z"⟩
abbrev cX8_stream : ByteArray := prog_10_method_45_code
def yX8_stream : MethodName := ⟨RX8, "stream", "(I)I"⟩
abbrev cX8_patch : ByteArray := prog_10_method_46_code
def yX8_patch : MethodName := ⟨RX8, "patch", "(II)I"⟩
abbrev cX8_cut : ByteArray := prog_10_method_47_code
def yX8_cut : MethodName := ⟨RX8, "cut", "(I)V"⟩
abbrev cX8_snap : ByteArray := prog_10_method_48_code
def yX8_snap : MethodName := ⟨RX8, "snap", "(III)J"⟩
abbrev cX8_isBlock : ByteArray := prog_10_method_49_code
def yX8_isBlock : MethodName := ⟨RX8, "isBlock", "(II)Z"⟩
abbrev cX8_block : ByteArray := prog_10_method_50_code
def yX8_block : MethodName := ⟨RX8, "block", "(III)I"⟩
abbrev cX8_pointer : ByteArray := prog_10_method_51_code
def yX8_pointer : MethodName := ⟨RX8, "pointer", "(IIII)I"⟩
abbrev cX8_data : ByteArray := prog_10_method_52_code
def yX8_data : MethodName := ⟨RX8, "data", "(II)J"⟩
abbrev cX8_look : ByteArray := prog_10_method_53_code
def yX8_look : MethodName := ⟨RX8, "look", "(II)I"⟩
abbrev cX8_sent : ByteArray := prog_10_method_54_code
def yX8_sent : MethodName := ⟨RX8, "sent", "(I)I"⟩
def RJx145de : String := "java/io/Serializable"
def TJx145de : u_T := fun k => match k with
  | _ => ("", "", "", false)
def tyJx145de : Nat → FieldType := fun k => match k with
  | _ => .int
abbrev wsJx145de0 : List Cond := u_ws RJx145de TJx145de 0
theorem nmJx145de : ∀ a, a < 0 → ∀ b, b < 0 → a ≠ b → (TJx145de a).2.1 ≠ (TJx145de b).2.1 := by decide +kernel
theorem tyJx145de_ok : ∀ k, k < 0 → parseFieldDescriptor (TJx145de k).2.2.1 = some (tyJx145de k) := by decide +kernel
def RJ9 : String := "java/lang/Math"
def TJ9 : u_T := fun k => match k with
  | _ => ("", "", "", false)
def tyJ9 : Nat → FieldType := fun k => match k with
  | _ => .int
abbrev wsJ90 : List Cond := u_ws RJ9 TJ9 0
theorem nmJ9 : ∀ a, a < 0 → ∀ b, b < 0 → a ≠ b → (TJ9 a).2.1 ≠ (TJ9 b).2.1 := by decide +kernel
theorem tyJ9_ok : ∀ k, k < 0 → parseFieldDescriptor (TJ9 k).2.2.1 = some (tyJ9 k) := by decide +kernel
abbrev cJ9_max_7cf53 : ByteArray := prog_15_method_65_code
def yJ9_max_7cf53 : MethodName := ⟨RJ9, "max", "(II)I"⟩
def RJ7 : String := "java/util/Arrays"
def TJ7 : u_T := fun k => match k with
  | _ => ("", "", "", false)
def tyJ7 : Nat → FieldType := fun k => match k with
  | _ => .int
abbrev wsJ70 : List Cond := u_ws RJ7 TJ7 0
theorem nmJ7 : ∀ a, a < 0 → ∀ b, b < 0 → a ≠ b → (TJ7 a).2.1 ≠ (TJ7 b).2.1 := by decide +kernel
theorem tyJ7_ok : ∀ k, k < 0 → parseFieldDescriptor (TJ7 k).2.2.1 = some (tyJ7 k) := by decide +kernel
abbrev cJ7_fill_53178 : ByteArray := prog_19_method_103_code
def yJ7_fill_53178 : MethodName := ⟨RJ7, "fill", "([II)V"⟩
def RL : String := "TwinVolumesLaw"
abbrev cL_format : ByteArray := method_3_code
def yL_format : MethodName := ⟨RL, "format", "(LTwinVolumes;II)I"⟩
abbrev cL_write : ByteArray := method_4_code
def yL_write : MethodName := ⟨RL, "write", "(LTwinVolumes;IIJ[J)I"⟩
abbrev cL_clear : ByteArray := method_5_code
def yL_clear : MethodName := ⟨RL, "clear", "(LTwinVolumes;II[J)I"⟩
abbrev cL_read : ByteArray := method_6_code
def yL_read : MethodName := ⟨RL, "read", "(LTwinVolumes;III[J)I"⟩
abbrev cL_snapshot : ByteArray := method_7_code
def yL_snapshot : MethodName := ⟨RL, "snapshot", "(LTwinVolumes;I[J)I"⟩
abbrev cL_destroy : ByteArray := method_8_code
def yL_destroy : MethodName := ⟨RL, "destroy", "(LTwinVolumes;II[J)I"⟩
abbrev cL_rollback : ByteArray := method_9_code
def yL_rollback : MethodName := ⟨RL, "rollback", "(LTwinVolumes;I[J)I"⟩
abbrev cL_send : ByteArray := method_10_code
def yL_send : MethodName := ⟨RL, "send", "(LTwinVolumes;III[J)I"⟩
abbrev cL_receive : ByteArray := method_11_code
def yL_receive : MethodName := ⟨RL, "receive", "(LTwinVolumes;I[J)I"⟩
abbrev cL_step : ByteArray := method_12_code
def yL_step : MethodName := ⟨RL, "step", "(LTwinVolumes;II[J)I"⟩
abbrev cL_crash : ByteArray := method_13_code
def yL_crash : MethodName := ⟨RL, "crash", "(LTwinVolumes;I[J)I"⟩
abbrev cL_patch : ByteArray := method_14_code
def yL_patch : MethodName := ⟨RL, "patch", "(LTwinVolumes;II[J)I"⟩
abbrev cL_cut : ByteArray := method_15_code
def yL_cut : MethodName := ⟨RL, "cut", "(LTwinVolumes;I)I"⟩
abbrev cL_law : ByteArray := code
def yL_law : MethodName := ⟨RL, "law", "([I)Z"⟩
abbrev vwCl : List vw_C := [(RX0, TX0, 10), (RX1, TX1, 1), (RX2, TX2, 1), (RX3, TX3, 5), (RX4, TX4, 5), (RX5, TX5, 2), (RX6, TX6, 6), (RX7, TX7, 7), (RX8, TX8, 27)]
def gW : List Cond := lw_tbl.filter goodWord
theorem gWm {w : Cond} (i : Nat) (h : lw_tbl[i]? = some w) (hg : goodWord w = true) : w ∈ gW := List.mem_filter.mpr ⟨List.mem_of_getElem? h, hg⟩
theorem gW_good : ∀ w ∈ gW, goodWord w = true := fun w h => (List.mem_filter.mp h).2
theorem gMem {w a : Cond} (h : w ∈ gW) : w ∈ a :: gW := List.mem_cons_of_mem _ h
theorem gIn {a : Cond} {L : List Cond} (h : ∀ w ∈ L, w ∈ gW) : ∀ w ∈ L, w ∈ a :: gW := fun w hw => List.mem_cons_of_mem _ (h w hw)
theorem gGood {a : Cond} {L : List Cond} (h : ∀ w ∈ L, w ∈ gW) : GoodIn (a :: gW) L := fun w hw => ⟨List.mem_cons_of_mem _ (h w hw), good_of_word (gW_good w (h w hw))⟩
theorem gSelf {y : Cond} (h : y ∈ gW) : ∀ w ∈ (y :: gW), w ∈ gW := fun w hw => (List.mem_cons.mp hw).elim (fun e => e ▸ h) id
theorem gIV {a : Cond} {own C : String} {idx : Nat} {y : MethodName} {b : ByteArray} {n : Nat} {r : Option FieldType} (h1 : Cond.methodLink own idx y ∈ gW) (h2 : Cond.instanceMethod y ∈ gW) (h3 : Cond.selects C y y ∈ gW) (h4 : Cond.initialized C ∈ gW) (h5 : Cond.code y b n r ∈ gW) : GoodIn (a :: gW) (wsV own idx C y (Cond.code y b n r :: gW)) := gGood fun w hw => by
  rcases List.mem_append.mp hw with h | h
  · simp only [List.mem_cons, List.not_mem_nil, or_false] at h
    rcases h with rfl | rfl | rfl | rfl <;> assumption
  · exact gSelf h5 w h
theorem gIS {a : Cond} {own : String} {idx : Nat} {y : MethodName} {b : ByteArray} {n : Nat} {r : Option FieldType} (h1 : Cond.methodLink own idx y ∈ gW) (h2 : Cond.static y ∈ gW) (h4 : Cond.initialized y.cls ∈ gW) (h5 : Cond.code y b n r ∈ gW) : GoodIn (a :: gW) (va_wsS own idx y (Cond.code y b n r :: gW)) := gGood fun w hw => by
  rcases List.mem_append.mp hw with h | h
  · simp only [List.mem_cons, List.not_mem_nil, or_false] at h
    rcases h with rfl | rfl | rfl <;> assumption
  · exact gSelf h5 w h
theorem tdec {cc : ByteArray} {T : List (Nat × Instr × Nat)} (h : ∀ q ∈ T, decode cc q.1 = .ok (q.2.1, q.2.2)) (i : Nat) {pc n : Nat} {ins : Instr} (hi : T[i]? = some (pc, ins, n)) : decode cc pc = .ok (ins, n) := h _ (List.mem_of_getElem? hi)
theorem fl_X0_14 : Cond.fieldLink RX0 14 (TX0 0).1 (TX0 0).2.1 (TX0 0).2.2.1 ∈ gW := gWm 143 (by decide +kernel) rfl
theorem fl_X0_20 : Cond.fieldLink RX0 20 (TX0 1).1 (TX0 1).2.1 (TX0 1).2.2.1 ∈ gW := gWm 144 (by decide +kernel) rfl
theorem fl_X0_23 : Cond.fieldLink RX0 23 (TX0 2).1 (TX0 2).2.1 (TX0 2).2.2.1 ∈ gW := gWm 145 (by decide +kernel) rfl
theorem fl_X0_29 : Cond.fieldLink RX0 29 (TX0 3).1 (TX0 3).2.1 (TX0 3).2.2.1 ∈ gW := gWm 146 (by decide +kernel) rfl
theorem fl_X0_33 : Cond.fieldLink RX0 33 (TX0 4).1 (TX0 4).2.1 (TX0 4).2.2.1 ∈ gW := gWm 147 (by decide +kernel) rfl
theorem fl_X0_36 : Cond.fieldLink RX0 36 (TX0 5).1 (TX0 5).2.1 (TX0 5).2.2.1 ∈ gW := gWm 148 (by decide +kernel) rfl
theorem fl_X0_39 : Cond.fieldLink RX0 39 (TX0 6).1 (TX0 6).2.1 (TX0 6).2.2.1 ∈ gW := gWm 149 (by decide +kernel) rfl
theorem fl_X0_45 : Cond.fieldLink RX0 45 (TX0 7).1 (TX0 7).2.1 (TX0 7).2.2.1 ∈ gW := gWm 150 (by decide +kernel) rfl
theorem fl_X0_49 : Cond.fieldLink RX0 49 (TX0 8).1 (TX0 8).2.1 (TX0 8).2.2.1 ∈ gW := gWm 151 (by decide +kernel) rfl
theorem fl_X0_52 : Cond.fieldLink RX0 52 (TX0 9).1 (TX0 9).2.1 (TX0 9).2.2.1 ∈ gW := gWm 152 (by decide +kernel) rfl
theorem fl_X1_15 : Cond.fieldLink RX1 15 (TX1 0).1 (TX1 0).2.1 (TX1 0).2.2.1 ∈ gW := gWm 126 (by decide +kernel) rfl
theorem fl_X2_13 : Cond.fieldLink RX2 13 (TX2 0).1 (TX2 0).2.1 (TX2 0).2.2.1 ∈ gW := gWm 138 (by decide +kernel) rfl
theorem fl_X3_9 : Cond.fieldLink RX3 9 (TX3 0).1 (TX3 0).2.1 (TX3 0).2.2.1 ∈ gW := gWm 218 (by decide +kernel) rfl
theorem fl_X3_15 : Cond.fieldLink RX3 15 (TX3 1).1 (TX3 1).2.1 (TX3 1).2.2.1 ∈ gW := gWm 219 (by decide +kernel) rfl
theorem fl_X3_19 : Cond.fieldLink RX3 19 (TX3 3).1 (TX3 3).2.1 (TX3 3).2.2.1 ∈ gW := gWm 221 (by decide +kernel) rfl
theorem fl_X3_60 : Cond.fieldLink RX3 60 (TX3 2).1 (TX3 2).2.1 (TX3 2).2.2.1 ∈ gW := gWm 220 (by decide +kernel) rfl
theorem fl_X3_63 : Cond.fieldLink RX3 63 (TX3 4).1 (TX3 4).2.1 (TX3 4).2.2.1 ∈ gW := gWm 222 (by decide +kernel) rfl
theorem fl_X4_9 : Cond.fieldLink RX4 9 (TX4 0).1 (TX4 0).2.1 (TX4 0).2.2.1 ∈ gW := gWm 89 (by decide +kernel) rfl
theorem fl_X4_15 : Cond.fieldLink RX4 15 (TX4 2).1 (TX4 2).2.1 (TX4 2).2.2.1 ∈ gW := gWm 91 (by decide +kernel) rfl
theorem fl_X4_19 : Cond.fieldLink RX4 19 (TX4 3).1 (TX4 3).2.1 (TX4 3).2.2.1 ∈ gW := gWm 92 (by decide +kernel) rfl
theorem fl_X4_22 : Cond.fieldLink RX4 22 (TX4 4).1 (TX4 4).2.1 (TX4 4).2.2.1 ∈ gW := gWm 93 (by decide +kernel) rfl
theorem fl_X4_31 : Cond.fieldLink RX4 31 (TX4 1).1 (TX4 1).2.1 (TX4 1).2.2.1 ∈ gW := gWm 90 (by decide +kernel) rfl
theorem fl_X5_9 : Cond.fieldLink RX5 9 (TX5 0).1 (TX5 0).2.1 (TX5 0).2.2.1 ∈ gW := gWm 75 (by decide +kernel) rfl
theorem fl_X5_15 : Cond.fieldLink RX5 15 (TX5 1).1 (TX5 1).2.1 (TX5 1).2.2.1 ∈ gW := gWm 76 (by decide +kernel) rfl
theorem fl_X6_12 : Cond.fieldLink RX6 12 (TX6 0).1 (TX6 0).2.1 (TX6 0).2.2.1 ∈ gW := gWm 193 (by decide +kernel) rfl
theorem fl_X6_23 : Cond.fieldLink RX6 23 (TX6 1).1 (TX6 1).2.1 (TX6 1).2.2.1 ∈ gW := gWm 194 (by decide +kernel) rfl
theorem fl_X6_30 : Cond.fieldLink RX6 30 (TX6 2).1 (TX6 2).2.1 (TX6 2).2.2.1 ∈ gW := gWm 195 (by decide +kernel) rfl
theorem fl_X6_38 : Cond.fieldLink RX6 38 (TX6 3).1 (TX6 3).2.1 (TX6 3).2.2.1 ∈ gW := gWm 196 (by decide +kernel) rfl
theorem fl_X6_42 : Cond.fieldLink RX6 42 (TX6 4).1 (TX6 4).2.1 (TX6 4).2.2.1 ∈ gW := gWm 197 (by decide +kernel) rfl
theorem fl_X6_45 : Cond.fieldLink RX6 45 (TX6 5).1 (TX6 5).2.1 (TX6 5).2.2.1 ∈ gW := gWm 198 (by decide +kernel) rfl
theorem fl_X7_12 : Cond.fieldLink RX7 12 (TX7 0).1 (TX7 0).2.1 (TX7 0).2.2.1 ∈ gW := gWm 234 (by decide +kernel) rfl
theorem fl_X7_21 : Cond.fieldLink RX7 21 (TX7 1).1 (TX7 1).2.1 (TX7 1).2.2.1 ∈ gW := gWm 235 (by decide +kernel) rfl
theorem fl_X7_28 : Cond.fieldLink RX7 28 (TX7 2).1 (TX7 2).2.1 (TX7 2).2.2.1 ∈ gW := gWm 236 (by decide +kernel) rfl
theorem fl_X7_32 : Cond.fieldLink RX7 32 (TX7 3).1 (TX7 3).2.1 (TX7 3).2.2.1 ∈ gW := gWm 237 (by decide +kernel) rfl
theorem fl_X7_40 : Cond.fieldLink RX7 40 (TX7 4).1 (TX7 4).2.1 (TX7 4).2.2.1 ∈ gW := gWm 238 (by decide +kernel) rfl
theorem fl_X7_44 : Cond.fieldLink RX7 44 (TX7 5).1 (TX7 5).2.1 (TX7 5).2.2.1 ∈ gW := gWm 239 (by decide +kernel) rfl
theorem fl_X7_47 : Cond.fieldLink RX7 47 (TX7 6).1 (TX7 6).2.1 (TX7 6).2.2.1 ∈ gW := gWm 240 (by decide +kernel) rfl
theorem fl_X8_9 : Cond.fieldLink RX8 9 (TX8 1).1 (TX8 1).2.1 (TX8 1).2.2.1 ∈ gW := gWm 824 (by decide +kernel) rfl
theorem fl_X8_13 : Cond.fieldLink RX8 13 (TX8 2).1 (TX8 2).2.1 (TX8 2).2.2.1 ∈ gW := gWm 825 (by decide +kernel) rfl
theorem fl_X8_16 : Cond.fieldLink RX8 16 (TX8 3).1 (TX8 3).2.1 (TX8 3).2.2.1 ∈ gW := gWm 826 (by decide +kernel) rfl
theorem fl_X8_19 : Cond.fieldLink RX8 19 (TX8 4).1 (TX8 4).2.1 (TX8 4).2.2.1 ∈ gW := gWm 827 (by decide +kernel) rfl
theorem fl_X8_22 : Cond.fieldLink RX8 22 (TX8 5).1 (TX8 5).2.1 (TX8 5).2.2.1 ∈ gW := gWm 828 (by decide +kernel) rfl
theorem fl_X8_26 : Cond.fieldLink RX8 26 (TX8 6).1 (TX8 6).2.1 (TX8 6).2.2.1 ∈ gW := gWm 829 (by decide +kernel) rfl
theorem fl_X8_30 : Cond.fieldLink RX8 30 (TX8 7).1 (TX8 7).2.1 (TX8 7).2.2.1 ∈ gW := gWm 830 (by decide +kernel) rfl
theorem fl_X8_33 : Cond.fieldLink RX8 33 (TX8 8).1 (TX8 8).2.1 (TX8 8).2.2.1 ∈ gW := gWm 831 (by decide +kernel) rfl
theorem fl_X8_36 : Cond.fieldLink RX8 36 (TX8 9).1 (TX8 9).2.1 (TX8 9).2.2.1 ∈ gW := gWm 832 (by decide +kernel) rfl
theorem fl_X8_39 : Cond.fieldLink RX8 39 (TX8 10).1 (TX8 10).2.1 (TX8 10).2.2.1 ∈ gW := gWm 833 (by decide +kernel) rfl
theorem fl_X8_42 : Cond.fieldLink RX8 42 (TX8 11).1 (TX8 11).2.1 (TX8 11).2.2.1 ∈ gW := gWm 834 (by decide +kernel) rfl
theorem fl_X8_45 : Cond.fieldLink RX8 45 (TX8 12).1 (TX8 12).2.1 (TX8 12).2.2.1 ∈ gW := gWm 835 (by decide +kernel) rfl
theorem fl_X8_48 : Cond.fieldLink RX8 48 (TX8 13).1 (TX8 13).2.1 (TX8 13).2.2.1 ∈ gW := gWm 836 (by decide +kernel) rfl
theorem fl_X8_51 : Cond.fieldLink RX8 51 (TX8 14).1 (TX8 14).2.1 (TX8 14).2.2.1 ∈ gW := gWm 837 (by decide +kernel) rfl
theorem fl_X8_54 : Cond.fieldLink RX8 54 (TX8 15).1 (TX8 15).2.1 (TX8 15).2.2.1 ∈ gW := gWm 838 (by decide +kernel) rfl
theorem fl_X8_57 : Cond.fieldLink RX8 57 (TX8 16).1 (TX8 16).2.1 (TX8 16).2.2.1 ∈ gW := gWm 839 (by decide +kernel) rfl
theorem fl_X8_60 : Cond.fieldLink RX8 60 (TX8 17).1 (TX8 17).2.1 (TX8 17).2.2.1 ∈ gW := gWm 840 (by decide +kernel) rfl
theorem fl_X8_64 : Cond.fieldLink RX8 64 (TX8 18).1 (TX8 18).2.1 (TX8 18).2.2.1 ∈ gW := gWm 841 (by decide +kernel) rfl
theorem fl_X8_68 : Cond.fieldLink RX8 68 (TX8 24).1 (TX8 24).2.1 (TX8 24).2.2.1 ∈ gW := gWm 847 (by decide +kernel) rfl
theorem fl_X8_71 : Cond.fieldLink RX8 71 (TX8 25).1 (TX8 25).2.1 (TX8 25).2.2.1 ∈ gW := gWm 848 (by decide +kernel) rfl
theorem fl_X8_78 : Cond.fieldLink RX8 78 (TX8 0).1 (TX8 0).2.1 (TX8 0).2.2.1 ∈ gW := gWm 823 (by decide +kernel) rfl
theorem fl_X8_147 : Cond.fieldLink RX8 147 (TX8 19).1 (TX8 19).2.1 (TX8 19).2.2.1 ∈ gW := gWm 842 (by decide +kernel) rfl
theorem fl_X8_152 : Cond.fieldLink RX8 152 (TX8 26).1 (TX8 26).2.1 (TX8 26).2.2.1 ∈ gW := gWm 849 (by decide +kernel) rfl
theorem fl_X8_163 : Cond.fieldLink RX8 163 (TX8 20).1 (TX8 20).2.1 (TX8 20).2.2.1 ∈ gW := gWm 843 (by decide +kernel) rfl
theorem fl_X8_171 : Cond.fieldLink RX8 171 (TX8 22).1 (TX8 22).2.1 (TX8 22).2.2.1 ∈ gW := gWm 845 (by decide +kernel) rfl
theorem fl_X8_173 : Cond.fieldLink RX8 173 (TX8 23).1 (TX8 23).2.1 (TX8 23).2.2.1 ∈ gW := gWm 846 (by decide +kernel) rfl
theorem fl_X8_178 : Cond.fieldLink RX8 178 (TX8 21).1 (TX8 21).2.1 (TX8 21).2.2.1 ∈ gW := gWm 844 (by decide +kernel) rfl
theorem ml_L_7 : Cond.methodLink RL 7 yX7_format ∈ gW := gWm 395 (by decide +kernel) rfl
theorem ml_L_15 : Cond.methodLink RL 15 yX7_write ∈ gW := gWm 471 (by decide +kernel) rfl
theorem ml_L_19 : Cond.methodLink RL 19 yX7_clear ∈ gW := gWm 532 (by decide +kernel) rfl
theorem ml_L_23 : Cond.methodLink RL 23 yX7_read ∈ gW := gWm 557 (by decide +kernel) rfl
theorem ml_L_29 : Cond.methodLink RL 29 yX7_snapshot ∈ gW := gWm 586 (by decide +kernel) rfl
theorem ml_L_37 : Cond.methodLink RL 37 yX7_destroy ∈ gW := gWm 630 (by decide +kernel) rfl
theorem ml_L_40 : Cond.methodLink RL 40 yX7_rollback ∈ gW := gWm 641 (by decide +kernel) rfl
theorem ml_L_43 : Cond.methodLink RL 43 yX7_send ∈ gW := gWm 652 (by decide +kernel) rfl
theorem ml_L_47 : Cond.methodLink RL 47 yX7_receive ∈ gW := gWm 709 (by decide +kernel) rfl
theorem ml_L_50 : Cond.methodLink RL 50 yX7_step ∈ gW := gWm 748 (by decide +kernel) rfl
theorem ml_L_53 : Cond.methodLink RL 53 yX7_crash ∈ gW := gWm 792 (by decide +kernel) rfl
theorem ml_L_57 : Cond.methodLink RL 57 yX7_patch ∈ gW := gWm 800 (by decide +kernel) rfl
theorem ml_L_60 : Cond.methodLink RL 60 yX7_cut ∈ gW := gWm 808 (by decide +kernel) rfl
theorem ml_L_64 : Cond.methodLink RL 64 yX7_init ∈ gW := gWm 63 (by decide +kernel) rfl
theorem ml_L_67 : Cond.methodLink RL 67 yX8_init ∈ gW := gWm 815 (by decide +kernel) rfl
theorem ml_L_68 : Cond.methodLink RL 68 yL_format ∈ gW := gWm 391 (by decide +kernel) rfl
theorem ml_L_73 : Cond.methodLink RL 73 yX8_format ∈ gW := gWm 910 (by decide +kernel) rfl
theorem ml_L_74 : Cond.methodLink RL 74 yX8_thrown ∈ gW := gWm 906 (by decide +kernel) rfl
theorem ml_L_80 : Cond.methodLink RL 80 yL_write ∈ gW := gWm 468 (by decide +kernel) rfl
theorem ml_L_83 : Cond.methodLink RL 83 yX8_write ∈ gW := gWm 917 (by decide +kernel) rfl
theorem ml_L_84 : Cond.methodLink RL 84 yL_clear ∈ gW := gWm 529 (by decide +kernel) rfl
theorem ml_L_87 : Cond.methodLink RL 87 yX8_clear ∈ gW := gWm 975 (by decide +kernel) rfl
theorem ml_L_88 : Cond.methodLink RL 88 yL_read ∈ gW := gWm 553 (by decide +kernel) rfl
theorem ml_L_91 : Cond.methodLink RL 91 yX8_read ∈ gW := gWm 987 (by decide +kernel) rfl
theorem ml_L_92 : Cond.methodLink RL 92 yL_snapshot ∈ gW := gWm 581 (by decide +kernel) rfl
theorem ml_L_95 : Cond.methodLink RL 95 yX8_snapshot ∈ gW := gWm 995 (by decide +kernel) rfl
theorem ml_L_96 : Cond.methodLink RL 96 yL_destroy ∈ gW := gWm 627 (by decide +kernel) rfl
theorem ml_L_98 : Cond.methodLink RL 98 yX8_destroy ∈ gW := gWm 1003 (by decide +kernel) rfl
theorem ml_L_99 : Cond.methodLink RL 99 yL_rollback ∈ gW := gWm 638 (by decide +kernel) rfl
theorem ml_L_101 : Cond.methodLink RL 101 yX8_rollback ∈ gW := gWm 1007 (by decide +kernel) rfl
theorem ml_L_102 : Cond.methodLink RL 102 yL_send ∈ gW := gWm 649 (by decide +kernel) rfl
theorem ml_L_104 : Cond.methodLink RL 104 yX8_send ∈ gW := gWm 1011 (by decide +kernel) rfl
theorem ml_L_105 : Cond.methodLink RL 105 yL_receive ∈ gW := gWm 706 (by decide +kernel) rfl
theorem ml_L_107 : Cond.methodLink RL 107 yX8_receive ∈ gW := gWm 1035 (by decide +kernel) rfl
theorem ml_L_108 : Cond.methodLink RL 108 yL_step ∈ gW := gWm 745 (by decide +kernel) rfl
theorem ml_L_110 : Cond.methodLink RL 110 yX8_step ∈ gW := gWm 1047 (by decide +kernel) rfl
theorem ml_L_111 : Cond.methodLink RL 111 yL_crash ∈ gW := gWm 789 (by decide +kernel) rfl
theorem ml_L_113 : Cond.methodLink RL 113 yX8_crash ∈ gW := gWm 1072 (by decide +kernel) rfl
theorem ml_L_114 : Cond.methodLink RL 114 yX7_stream ∈ gW := gWm 256 (by decide +kernel) rfl
theorem ml_L_117 : Cond.methodLink RL 117 yX8_stream ∈ gW := gWm 1076 (by decide +kernel) rfl
theorem ml_L_118 : Cond.methodLink RL 118 yL_patch ∈ gW := gWm 797 (by decide +kernel) rfl
theorem ml_L_120 : Cond.methodLink RL 120 yX8_patch ∈ gW := gWm 1080 (by decide +kernel) rfl
theorem ml_L_121 : Cond.methodLink RL 121 yL_cut ∈ gW := gWm 805 (by decide +kernel) rfl
theorem ml_L_124 : Cond.methodLink RL 124 yX8_cut ∈ gW := gWm 1084 (by decide +kernel) rfl
theorem ml_L_125 : Cond.methodLink RL 125 yX7_snap ∈ gW := gWm 264 (by decide +kernel) rfl
theorem ml_L_128 : Cond.methodLink RL 128 yX8_snap ∈ gW := gWm 1088 (by decide +kernel) rfl
theorem ml_L_129 : Cond.methodLink RL 129 yX7_block ∈ gW := gWm 306 (by decide +kernel) rfl
theorem ml_L_132 : Cond.methodLink RL 132 yX8_block ∈ gW := gWm 1093 (by decide +kernel) rfl
theorem ml_L_133 : Cond.methodLink RL 133 yX7_pointer ∈ gW := gWm 326 (by decide +kernel) rfl
theorem ml_L_137 : Cond.methodLink RL 137 yX8_pointer ∈ gW := gWm 1101 (by decide +kernel) rfl
theorem ml_L_138 : Cond.methodLink RL 138 yX7_data ∈ gW := gWm 330 (by decide +kernel) rfl
theorem ml_L_142 : Cond.methodLink RL 142 yX8_data ∈ gW := gWm 1105 (by decide +kernel) rfl
theorem ml_L_143 : Cond.methodLink RL 143 yX7_look ∈ gW := gWm 339 (by decide +kernel) rfl
theorem ml_L_146 : Cond.methodLink RL 146 yX8_look ∈ gW := gWm 1109 (by decide +kernel) rfl
theorem ml_L_147 : Cond.methodLink RL 147 yX7_sent ∈ gW := gWm 371 (by decide +kernel) rfl
theorem ml_L_150 : Cond.methodLink RL 150 yX8_sent ∈ gW := gWm 1113 (by decide +kernel) rfl
theorem ml_X0_11 : Cond.methodLink RX0 11 yX1_init ∈ gW := gWm 119 (by decide +kernel) rfl
theorem ml_X0_28 : Cond.methodLink RX0 28 yX2_init ∈ gW := gWm 133 (by decide +kernel) rfl
theorem ml_X0_42 : Cond.methodLink RX0 42 yX1_fill ∈ gW := gWm 186 (by decide +kernel) rfl
theorem ml_X0_55 : Cond.methodLink RX0 55 yX1_at ∈ gW := gWm 301 (by decide +kernel) rfl
theorem ml_X0_59 : Cond.methodLink RX0 59 yX2_at ∈ gW := gWm 338 (by decide +kernel) rfl
theorem ml_X0_62 : Cond.methodLink RX0 62 yX2_put ∈ gW := gWm 517 (by decide +kernel) rfl
theorem ml_X0_66 : Cond.methodLink RX0 66 yX1_put ∈ gW := gWm 505 (by decide +kernel) rfl
theorem ml_X0_69 : Cond.methodLink RX0 69 yX0_wantsNewBlock ∈ gW := gWm 500 (by decide +kernel) rfl
theorem ml_X0_73 : Cond.methodLink RX0 73 yX0_takeLeastFree ∈ gW := gWm 501 (by decide +kernel) rfl
theorem ml_X0_77 : Cond.methodLink RX0 77 yX0_point ∈ gW := gWm 509 (by decide +kernel) rfl
theorem ml_X1_21 : Cond.methodLink RX1 21 yJ7_fill_53178 ∈ gW := gWm 190 (by decide +kernel) rfl
theorem ml_X3_23 : Cond.methodLink RX3 23 yX6_isBusy ∈ gW := gWm 717 (by decide +kernel) rfl
theorem ml_X3_29 : Cond.methodLink RX3 29 yX5_at ∈ gW := gWm 718 (by decide +kernel) rfl
theorem ml_X3_35 : Cond.methodLink RX3 35 yX5_isWhole ∈ gW := gWm 719 (by decide +kernel) rfl
theorem ml_X3_39 : Cond.methodLink RX3 39 yX5_numberAt ∈ gW := gWm 727 (by decide +kernel) rfl
theorem ml_X3_43 : Cond.methodLink RX3 43 yX6_snapshots ∈ gW := gWm 728 (by decide +kernel) rfl
theorem ml_X3_47 : Cond.methodLink RX3 47 yX6_isLatest ∈ gW := gWm 729 (by decide +kernel) rfl
theorem ml_X3_51 : Cond.methodLink RX3 51 yX6_isDirty ∈ gW := gWm 733 (by decide +kernel) rfl
theorem ml_X3_54 : Cond.methodLink RX3 54 yX6_hasMark ∈ gW := gWm 737 (by decide +kernel) rfl
theorem ml_X3_57 : Cond.methodLink RX3 57 yX6_makeHidden ∈ gW := gWm 741 (by decide +kernel) rfl
theorem ml_X3_67 : Cond.methodLink RX3 67 yX3_takeRecord ∈ gW := gWm 756 (by decide +kernel) rfl
theorem ml_X3_70 : Cond.methodLink RX3 70 yX6_settle ∈ gW := gWm 784 (by decide +kernel) rfl
theorem ml_X3_73 : Cond.methodLink RX3 73 yX6_dropHidden ∈ gW := gWm 785 (by decide +kernel) rfl
theorem ml_X3_76 : Cond.methodLink RX3 76 yX3_sizeOf ∈ gW := gWm 760 (by decide +kernel) rfl
theorem ml_X3_79 : Cond.methodLink RX3 79 yX3_takeWrite ∈ gW := gWm 763 (by decide +kernel) rfl
theorem ml_X3_82 : Cond.methodLink RX3 82 yX3_takeClear ∈ gW := gWm 769 (by decide +kernel) rfl
theorem ml_X3_85 : Cond.methodLink RX3 85 yX3_takeEnd ∈ gW := gWm 774 (by decide +kernel) rfl
theorem ml_X3_92 : Cond.methodLink RX3 92 yX6_writePlace ∈ gW := gWm 768 (by decide +kernel) rfl
theorem ml_X3_96 : Cond.methodLink RX3 96 yX6_clearPlace ∈ gW := gWm 773 (by decide +kernel) rfl
theorem ml_X3_99 : Cond.methodLink RX3 99 yX5_length ∈ gW := gWm 778 (by decide +kernel) rfl
theorem ml_X3_102 : Cond.methodLink RX3 102 yX6_keepHidden ∈ gW := gWm 779 (by decide +kernel) rfl
theorem ml_X4_25 : Cond.methodLink RX4 25 yX6_generationOf ∈ gW := gWm 660 (by decide +kernel) rfl
theorem ml_X4_34 : Cond.methodLink RX4 34 yX5_shorten ∈ gW := gWm 661 (by decide +kernel) rfl
theorem ml_X4_40 : Cond.methodLink RX4 40 yX6_markOf ∈ gW := gWm 665 (by decide +kernel) rfl
theorem ml_X4_44 : Cond.methodLink RX4 44 yX5_addBegin ∈ gW := gWm 666 (by decide +kernel) rfl
theorem ml_X4_48 : Cond.methodLink RX4 48 yX6_blocks ∈ gW := gWm 684 (by decide +kernel) rfl
theorem ml_X4_52 : Cond.methodLink RX4 52 yX4_goOver ∈ gW := gWm 685 (by decide +kernel) rfl
theorem ml_X4_56 : Cond.methodLink RX4 56 yX5_addEnd ∈ gW := gWm 701 (by decide +kernel) rfl
theorem ml_X4_59 : Cond.methodLink RX4 59 yX0_birth ∈ gW := gWm 688 (by decide +kernel) rfl
theorem ml_X4_64 : Cond.methodLink RX4 64 yX0_told ∈ gW := gWm 689 (by decide +kernel) rfl
theorem ml_X4_67 : Cond.methodLink RX4 67 yX5_addClear ∈ gW := gWm 690 (by decide +kernel) rfl
theorem ml_X4_71 : Cond.methodLink RX4 71 yX0_number ∈ gW := gWm 695 (by decide +kernel) rfl
theorem ml_X4_74 : Cond.methodLink RX4 74 yX5_addWrite ∈ gW := gWm 696 (by decide +kernel) rfl
theorem ml_X5_19 : Cond.methodLink RX5 19 yX5_addNumber ∈ gW := gWm 670 (by decide +kernel) rfl
theorem ml_X5_23 : Cond.methodLink RX5 23 yX5_sumOf ∈ gW := gWm 678 (by decide +kernel) rfl
theorem ml_X5_33 : Cond.methodLink RX5 33 yX5_put ∈ gW := gWm 674 (by decide +kernel) rfl
theorem ml_X5_37 : Cond.methodLink RX5 37 yX5_at ∈ gW := gWm 682 (by decide +kernel) rfl
theorem ml_X5_41 : Cond.methodLink RX5 41 yX5_numberAt ∈ gW := gWm 723 (by decide +kernel) rfl
theorem ml_X6_20 : Cond.methodLink RX6 20 yX2_init ∈ gW := gWm 175 (by decide +kernel) rfl
theorem ml_X6_29 : Cond.methodLink RX6 29 yX1_init ∈ gW := gWm 177 (by decide +kernel) rfl
theorem ml_X6_34 : Cond.methodLink RX6 34 yX6_startAnew ∈ gW := gWm 178 (by decide +kernel) rfl
theorem ml_X6_37 : Cond.methodLink RX6 37 yX0_startAnew ∈ gW := gWm 182 (by decide +kernel) rfl
theorem ml_X6_49 : Cond.methodLink RX6 49 yX2_at ∈ gW := gWm 281 (by decide +kernel) rfl
theorem ml_X6_53 : Cond.methodLink RX6 53 yX1_at ∈ gW := gWm 289 (by decide +kernel) rfl
theorem ml_X6_56 : Cond.methodLink RX6 56 yX0_settle ∈ gW := gWm 525 (by decide +kernel) rfl
theorem ml_X6_59 : Cond.methodLink RX6 59 yX6_slotToLevel ∈ gW := gWm 540 (by decide +kernel) rfl
theorem ml_X6_63 : Cond.methodLink RX6 63 yX0_told ∈ gW := gWm 490 (by decide +kernel) rfl
theorem ml_X6_66 : Cond.methodLink RX6 66 yX0_number ∈ gW := gWm 580 (by decide +kernel) rfl
theorem ml_X6_69 : Cond.methodLink RX6 69 yX6_newBlocksWanted ∈ gW := gWm 482 (by decide +kernel) rfl
theorem ml_X6_72 : Cond.methodLink RX6 72 yX0_free ∈ gW := gWm 495 (by decide +kernel) rfl
theorem ml_X6_76 : Cond.methodLink RX6 76 yX0_renew ∈ gW := gWm 496 (by decide +kernel) rfl
theorem ml_X6_80 : Cond.methodLink RX6 80 yX0_slotIn ∈ gW := gWm 491 (by decide +kernel) rfl
theorem ml_X6_84 : Cond.methodLink RX6 84 yX0_putNumber ∈ gW := gWm 513 (by decide +kernel) rfl
theorem ml_X6_88 : Cond.methodLink RX6 88 yX0_point ∈ gW := gWm 544 (by decide +kernel) rfl
theorem ml_X6_91 : Cond.methodLink RX6 91 yX6_makeHoleIfEmpty ∈ gW := gWm 545 (by decide +kernel) rfl
theorem ml_X6_94 : Cond.methodLink RX6 94 yX0_hasOnlyHoles ∈ gW := gWm 549 (by decide +kernel) rfl
theorem ml_X6_98 : Cond.methodLink RX6 98 yX0_wantsNewBlock ∈ gW := gWm 486 (by decide +kernel) rfl
theorem ml_X6_102 : Cond.methodLink RX6 102 yX0_birth ∈ gW := gWm 624 (by decide +kernel) rfl
theorem ml_X6_105 : Cond.methodLink RX6 105 yX2_put ∈ gW := gWm 625 (by decide +kernel) rfl
theorem ml_X6_108 : Cond.methodLink RX6 108 yX1_put ∈ gW := gWm 626 (by decide +kernel) rfl
theorem ml_X6_111 : Cond.methodLink RX6 111 yX6_keepLive ∈ gW := gWm 783 (by decide +kernel) rfl
theorem ml_X7_18 : Cond.methodLink RX7 18 yX4_init ∈ gW := gWm 85 (by decide +kernel) rfl
theorem ml_X7_27 : Cond.methodLink RX7 27 yX6_init ∈ gW := gWm 107 (by decide +kernel) rfl
theorem ml_X7_37 : Cond.methodLink RX7 37 yX3_init ∈ gW := gWm 214 (by decide +kernel) rfl
theorem ml_X7_51 : Cond.methodLink RX7 51 yX7_find ∈ gW := gWm 268 (by decide +kernel) rfl
theorem ml_X7_58 : Cond.methodLink RX7 58 yX6_startAnew ∈ gW := gWm 463 (by decide +kernel) rfl
theorem ml_X7_62 : Cond.methodLink RX7 62 yX7_receivingOf ∈ gW := gWm 363 (by decide +kernel) rfl
theorem ml_X7_66 : Cond.methodLink RX7 66 yX3_forget ∈ gW := gWm 464 (by decide +kernel) rfl
theorem ml_X7_69 : Cond.methodLink RX7 69 yX7_isPlace ∈ gW := gWm 475 (by decide +kernel) rfl
theorem ml_X7_73 : Cond.methodLink RX7 73 yX6_isBusy ∈ gW := gWm 359 (by decide +kernel) rfl
theorem ml_X7_77 : Cond.methodLink RX7 77 yX6_writePlace ∈ gW := gWm 478 (by decide +kernel) rfl
theorem ml_X7_81 : Cond.methodLink RX7 81 yX6_settle ∈ gW := gWm 521 (by decide +kernel) rfl
theorem ml_X7_84 : Cond.methodLink RX7 84 yX6_clearPlace ∈ gW := gWm 536 (by decide +kernel) rfl
theorem ml_X7_88 : Cond.methodLink RX7 88 yX6_hasSnapshot ∈ gW := gWm 272 (by decide +kernel) rfl
theorem ml_X7_94 : Cond.methodLink RX7 94 yX6_readPlace ∈ gW := gWm 576 (by decide +kernel) rfl
theorem ml_X7_101 : Cond.methodLink RX7 101 yX6_snapshots ∈ gW := gWm 355 (by decide +kernel) rfl
theorem ml_X7_108 : Cond.methodLink RX7 108 yX6_keepLive ∈ gW := gWm 620 (by decide +kernel) rfl
theorem ml_X7_112 : Cond.methodLink RX7 112 yX6_dropSnapshot ∈ gW := gWm 634 (by decide +kernel) rfl
theorem ml_X7_116 : Cond.methodLink RX7 116 yX6_returnToLatest ∈ gW := gWm 645 (by decide +kernel) rfl
theorem ml_X7_119 : Cond.methodLink RX7 119 yX4_fillStream ∈ gW := gWm 656 (by decide +kernel) rfl
theorem ml_X7_123 : Cond.methodLink RX7 123 yX5_length ∈ gW := gWm 387 (by decide +kernel) rfl
theorem ml_X7_126 : Cond.methodLink RX7 126 yX3_takeBegin ∈ gW := gWm 713 (by decide +kernel) rfl
theorem ml_X7_129 : Cond.methodLink RX7 129 yX3_takeRecords ∈ gW := gWm 752 (by decide +kernel) rfl
theorem ml_X7_132 : Cond.methodLink RX7 132 yX6_dropHidden ∈ gW := gWm 796 (by decide +kernel) rfl
theorem ml_X7_135 : Cond.methodLink RX7 135 yX5_at ∈ gW := gWm 260 (by decide +kernel) rfl
theorem ml_X7_138 : Cond.methodLink RX7 138 yX5_put ∈ gW := gWm 804 (by decide +kernel) rfl
theorem ml_X7_142 : Cond.methodLink RX7 142 yX5_shorten ∈ gW := gWm 812 (by decide +kernel) rfl
theorem ml_X7_147 : Cond.methodLink RX7 147 yX6_markOf ∈ gW := gWm 277 (by decide +kernel) rfl
theorem ml_X7_151 : Cond.methodLink RX7 151 yX6_generationOf ∈ gW := gWm 285 (by decide +kernel) rfl
theorem ml_X7_154 : Cond.methodLink RX7 154 yX6_blocks ∈ gW := gWm 293 (by decide +kernel) rfl
theorem ml_X7_158 : Cond.methodLink RX7 158 yX0_told ∈ gW := gWm 297 (by decide +kernel) rfl
theorem ml_X7_163 : Cond.methodLink RX7 163 yX0_birth ∈ gW := gWm 302 (by decide +kernel) rfl
theorem ml_X7_166 : Cond.methodLink RX7 166 yX0_has ∈ gW := gWm 310 (by decide +kernel) rfl
theorem ml_X7_169 : Cond.methodLink RX7 169 yX0_level ∈ gW := gWm 314 (by decide +kernel) rfl
theorem ml_X7_172 : Cond.methodLink RX7 172 yX0_birthOfBlock ∈ gW := gWm 318 (by decide +kernel) rfl
theorem ml_X7_175 : Cond.methodLink RX7 175 yX0_tellers ∈ gW := gWm 322 (by decide +kernel) rfl
theorem ml_X7_178 : Cond.methodLink RX7 178 yX0_number ∈ gW := gWm 334 (by decide +kernel) rfl
theorem ml_X7_181 : Cond.methodLink RX7 181 yX0_count ∈ gW := gWm 343 (by decide +kernel) rfl
theorem ml_X7_184 : Cond.methodLink RX7 184 yX0_free ∈ gW := gWm 347 (by decide +kernel) rfl
theorem ml_X7_187 : Cond.methodLink RX7 187 yX6_generation ∈ gW := gWm 351 (by decide +kernel) rfl
theorem ml_X7_190 : Cond.methodLink RX7 190 yX3_received ∈ gW := gWm 367 (by decide +kernel) rfl
theorem ml_X7_193 : Cond.methodLink RX7 193 yX4_writes ∈ gW := gWm 375 (by decide +kernel) rfl
theorem ml_X7_196 : Cond.methodLink RX7 196 yX4_clears ∈ gW := gWm 379 (by decide +kernel) rfl
theorem ml_X7_199 : Cond.methodLink RX7 199 yX4_seen ∈ gW := gWm 383 (by decide +kernel) rfl
theorem ml_X8_74 : Cond.methodLink RX8 74 yX8_fresh ∈ gW := gWm 819 (by decide +kernel) rfl
theorem ml_X8_82 : Cond.methodLink RX8 82 yX8_isVolume ∈ gW := gWm 914 (by decide +kernel) rfl
theorem ml_X8_86 : Cond.methodLink RX8 86 yX8_isTree ∈ gW := gWm 971 (by decide +kernel) rfl
theorem ml_X8_90 : Cond.methodLink RX8 90 yX8_told ∈ gW := gWm 936 (by decide +kernel) rfl
theorem ml_X8_94 : Cond.methodLink RX8 94 yX8_turn ∈ gW := gWm 940 (by decide +kernel) rfl
theorem ml_X8_97 : Cond.methodLink RX8 97 yX8_born ∈ gW := gWm 947 (by decide +kernel) rfl
theorem ml_X8_100 : Cond.methodLink RX8 100 yX8_take ∈ gW := gWm 959 (by decide +kernel) rfl
theorem ml_X8_103 : Cond.methodLink RX8 103 yX8_point ∈ gW := gWm 963 (by decide +kernel) rfl
theorem ml_X8_107 : Cond.methodLink RX8 107 yX8_ways ∈ gW := gWm 932 (by decide +kernel) rfl
theorem ml_X8_111 : Cond.methodLink RX8 111 yX8_wanted ∈ gW := gWm 943 (by decide +kernel) rfl
theorem ml_X8_114 : Cond.methodLink RX8 114 yX8_freeMany ∈ gW := gWm 951 (by decide +kernel) rfl
theorem ml_X8_118 : Cond.methodLink RX8 118 yX8_renews ∈ gW := gWm 955 (by decide +kernel) rfl
theorem ml_X8_121 : Cond.methodLink RX8 121 yX8_hasNothing ∈ gW := gWm 983 (by decide +kernel) rfl
theorem ml_X8_124 : Cond.methodLink RX8 124 yX8_isPlace ∈ gW := gWm 921 (by decide +kernel) rfl
theorem ml_X8_127 : Cond.methodLink RX8 127 yX8_begins ∈ gW := gWm 924 (by decide +kernel) rfl
theorem ml_X8_131 : Cond.methodLink RX8 131 yX8_writes ∈ gW := gWm 928 (by decide +kernel) rfl
theorem ml_X8_135 : Cond.methodLink RX8 135 yX8_sweeps ∈ gW := gWm 967 (by decide +kernel) rfl
theorem ml_X8_138 : Cond.methodLink RX8 138 yX8_clears ∈ gW := gWm 979 (by decide +kernel) rfl
theorem ml_X8_141 : Cond.methodLink RX8 141 yX8_isSnap ∈ gW := gWm 991 (by decide +kernel) rfl
theorem ml_X8_144 : Cond.methodLink RX8 144 yX8_snaps ∈ gW := gWm 999 (by decide +kernel) rfl
theorem ml_X8_155 : Cond.methodLink RX8 155 yX8_sumOf ∈ gW := gWm 1023 (by decide +kernel) rfl
theorem ml_X8_159 : Cond.methodLink RX8 159 yX8_put ∈ gW := gWm 1015 (by decide +kernel) rfl
theorem ml_X8_168 : Cond.methodLink RX8 168 yX8_ends ∈ gW := gWm 1019 (by decide +kernel) rfl
theorem ml_X8_180 : Cond.methodLink RX8 180 yX8_brings ∈ gW := gWm 1028 (by decide +kernel) rfl
theorem ml_X8_186 : Cond.methodLink RX8 186 yX8_number ∈ gW := gWm 1043 (by decide +kernel) rfl
theorem ml_X8_189 : Cond.methodLink RX8 189 yX8_isWhole ∈ gW := gWm 1039 (by decide +kernel) rfl
theorem ml_X8_194 : Cond.methodLink RX8 194 yX8_writesHere ∈ gW := gWm 1055 (by decide +kernel) rfl
theorem ml_X8_197 : Cond.methodLink RX8 197 yX8_clearsHere ∈ gW := gWm 1060 (by decide +kernel) rfl
theorem ml_X8_200 : Cond.methodLink RX8 200 yX8_endsHere ∈ gW := gWm 1064 (by decide +kernel) rfl
theorem ml_X8_203 : Cond.methodLink RX8 203 yX8_stops ∈ gW := gWm 1068 (by decide +kernel) rfl
theorem ml_X8_206 : Cond.methodLink RX8 206 yX8_record ∈ gW := gWm 1051 (by decide +kernel) rfl
theorem ml_X8_211 : Cond.methodLink RX8 211 yX8_isBlock ∈ gW := gWm 1097 (by decide +kernel) rfl
theorem kl_L_78 : Cond.constantLong RL 78 4294967295 ∈ gW := gWm 1117 (by decide +kernel) rfl
theorem kl_X5_27 : Cond.constantLong RX5 27 2 ∈ gW := gWm 700 (by decide +kernel) rfl
theorem kl_X5_29 : Cond.constantLong RX5 29 3 ∈ gW := gWm 694 (by decide +kernel) rfl
theorem kl_X5_31 : Cond.constantLong RX5 31 4 ∈ gW := gWm 705 (by decide +kernel) rfl
theorem kl_X5_44 : Cond.constantLong RX5 44 4294967295 ∈ gW := gWm 683 (by decide +kernel) rfl
theorem kl_X7_145 : Cond.constantLong RX7 145 (-1) ∈ gW := gWm 276 (by decide +kernel) rfl
theorem kl_X8_150 : Cond.constantLong RX8 150 4294967295 ∈ gW := gWm 1027 (by decide +kernel) rfl
theorem kl_X8_166 : Cond.constantLong RX8 166 3 ∈ gW := gWm 1032 (by decide +kernel) rfl
theorem kl_X8_176 : Cond.constantLong RX8 176 2 ∈ gW := gWm 1033 (by decide +kernel) rfl
theorem kl_X8_184 : Cond.constantLong RX8 184 4 ∈ gW := gWm 1034 (by decide +kernel) rfl
theorem kl_X8_192 : Cond.constantLong RX8 192 512 ∈ gW := gWm 1059 (by decide +kernel) rfl
theorem kl_X8_209 : Cond.constantLong RX8 209 (-1) ∈ gW := gWm 1092 (by decide +kernel) rfl
theorem cd_X0_init : Cond.code yX0_init cX0_init 1 none ∈ gW := gWm 115 (by decide +kernel) rfl
theorem im_X0_init : Cond.instanceMethod yX0_init ∈ gW := gWm 114 (by decide +kernel) rfl
theorem cd_X0_startAnew : Cond.code yX0_startAnew cX0_startAnew 2 none ∈ gW := gWm 185 (by decide +kernel) rfl
theorem im_X0_startAnew : Cond.instanceMethod yX0_startAnew ∈ gW := gWm 183 (by decide +kernel) rfl
theorem sl_X0_startAnew : Cond.selects RX0 yX0_startAnew yX0_startAnew ∈ gW := gWm 184 (by decide +kernel) rfl
theorem cd_X0_count : Cond.code yX0_count cX0_count 1 (some .int) ∈ gW := gWm 346 (by decide +kernel) rfl
theorem im_X0_count : Cond.instanceMethod yX0_count ∈ gW := gWm 344 (by decide +kernel) rfl
theorem sl_X0_count : Cond.selects RX0 yX0_count yX0_count ∈ gW := gWm 345 (by decide +kernel) rfl
theorem cd_X0_free : Cond.code yX0_free cX0_free 1 (some .int) ∈ gW := gWm 350 (by decide +kernel) rfl
theorem im_X0_free : Cond.instanceMethod yX0_free ∈ gW := gWm 348 (by decide +kernel) rfl
theorem sl_X0_free : Cond.selects RX0 yX0_free yX0_free ∈ gW := gWm 349 (by decide +kernel) rfl
theorem cd_X0_has : Cond.code yX0_has cX0_has 2 (some .boolean) ∈ gW := gWm 313 (by decide +kernel) rfl
theorem im_X0_has : Cond.instanceMethod yX0_has ∈ gW := gWm 311 (by decide +kernel) rfl
theorem sl_X0_has : Cond.selects RX0 yX0_has yX0_has ∈ gW := gWm 312 (by decide +kernel) rfl
theorem cd_X0_level : Cond.code yX0_level cX0_level 2 (some .int) ∈ gW := gWm 317 (by decide +kernel) rfl
theorem im_X0_level : Cond.instanceMethod yX0_level ∈ gW := gWm 315 (by decide +kernel) rfl
theorem sl_X0_level : Cond.selects RX0 yX0_level yX0_level ∈ gW := gWm 316 (by decide +kernel) rfl
theorem cd_X0_birthOfBlock : Cond.code yX0_birthOfBlock cX0_birthOfBlock 2 (some .int) ∈ gW := gWm 321 (by decide +kernel) rfl
theorem im_X0_birthOfBlock : Cond.instanceMethod yX0_birthOfBlock ∈ gW := gWm 319 (by decide +kernel) rfl
theorem sl_X0_birthOfBlock : Cond.selects RX0 yX0_birthOfBlock yX0_birthOfBlock ∈ gW := gWm 320 (by decide +kernel) rfl
theorem cd_X0_tellers : Cond.code yX0_tellers cX0_tellers 2 (some .int) ∈ gW := gWm 325 (by decide +kernel) rfl
theorem im_X0_tellers : Cond.instanceMethod yX0_tellers ∈ gW := gWm 323 (by decide +kernel) rfl
theorem sl_X0_tellers : Cond.selects RX0 yX0_tellers yX0_tellers ∈ gW := gWm 324 (by decide +kernel) rfl
theorem cd_X0_number : Cond.code yX0_number cX0_number 2 (some .long) ∈ gW := gWm 337 (by decide +kernel) rfl
theorem im_X0_number : Cond.instanceMethod yX0_number ∈ gW := gWm 335 (by decide +kernel) rfl
theorem sl_X0_number : Cond.selects RX0 yX0_number yX0_number ∈ gW := gWm 336 (by decide +kernel) rfl
theorem cd_X0_putNumber : Cond.code yX0_putNumber cX0_putNumber 4 none ∈ gW := gWm 516 (by decide +kernel) rfl
theorem im_X0_putNumber : Cond.instanceMethod yX0_putNumber ∈ gW := gWm 514 (by decide +kernel) rfl
theorem sl_X0_putNumber : Cond.selects RX0 yX0_putNumber yX0_putNumber ∈ gW := gWm 515 (by decide +kernel) rfl
theorem cd_X0_told : Cond.code yX0_told cX0_told 2 (some .int) ∈ gW := gWm 300 (by decide +kernel) rfl
theorem im_X0_told : Cond.instanceMethod yX0_told ∈ gW := gWm 298 (by decide +kernel) rfl
theorem sl_X0_told : Cond.selects RX0 yX0_told yX0_told ∈ gW := gWm 299 (by decide +kernel) rfl
theorem cd_X0_birth : Cond.code yX0_birth cX0_birth 2 (some .int) ∈ gW := gWm 305 (by decide +kernel) rfl
theorem im_X0_birth : Cond.instanceMethod yX0_birth ∈ gW := gWm 303 (by decide +kernel) rfl
theorem sl_X0_birth : Cond.selects RX0 yX0_birth yX0_birth ∈ gW := gWm 304 (by decide +kernel) rfl
theorem cd_X0_slotIn : Cond.code yX0_slotIn cX0_slotIn 4 (some .int) ∈ gW := gWm 494 (by decide +kernel) rfl
theorem im_X0_slotIn : Cond.instanceMethod yX0_slotIn ∈ gW := gWm 492 (by decide +kernel) rfl
theorem sl_X0_slotIn : Cond.selects RX0 yX0_slotIn yX0_slotIn ∈ gW := gWm 493 (by decide +kernel) rfl
theorem cd_X0_point : Cond.code yX0_point cX0_point 5 none ∈ gW := gWm 512 (by decide +kernel) rfl
theorem im_X0_point : Cond.instanceMethod yX0_point ∈ gW := gWm 510 (by decide +kernel) rfl
theorem sl_X0_point : Cond.selects RX0 yX0_point yX0_point ∈ gW := gWm 511 (by decide +kernel) rfl
theorem cd_X0_hasOnlyHoles : Cond.code yX0_hasOnlyHoles cX0_hasOnlyHoles 3 (some .boolean) ∈ gW := gWm 552 (by decide +kernel) rfl
theorem im_X0_hasOnlyHoles : Cond.instanceMethod yX0_hasOnlyHoles ∈ gW := gWm 550 (by decide +kernel) rfl
theorem sl_X0_hasOnlyHoles : Cond.selects RX0 yX0_hasOnlyHoles yX0_hasOnlyHoles ∈ gW := gWm 551 (by decide +kernel) rfl
theorem cd_X0_wantsNewBlock : Cond.code yX0_wantsNewBlock cX0_wantsNewBlock 3 (some .boolean) ∈ gW := gWm 489 (by decide +kernel) rfl
theorem im_X0_wantsNewBlock : Cond.instanceMethod yX0_wantsNewBlock ∈ gW := gWm 487 (by decide +kernel) rfl
theorem sl_X0_wantsNewBlock : Cond.selects RX0 yX0_wantsNewBlock yX0_wantsNewBlock ∈ gW := gWm 488 (by decide +kernel) rfl
theorem cd_X0_renew : Cond.code yX0_renew cX0_renew 7 none ∈ gW := gWm 499 (by decide +kernel) rfl
theorem im_X0_renew : Cond.instanceMethod yX0_renew ∈ gW := gWm 497 (by decide +kernel) rfl
theorem sl_X0_renew : Cond.selects RX0 yX0_renew yX0_renew ∈ gW := gWm 498 (by decide +kernel) rfl
theorem cd_X0_takeLeastFree : Cond.code yX0_takeLeastFree cX0_takeLeastFree 2 (some .int) ∈ gW := gWm 504 (by decide +kernel) rfl
theorem im_X0_takeLeastFree : Cond.instanceMethod yX0_takeLeastFree ∈ gW := gWm 503 (by decide +kernel) rfl
theorem sl_X0_takeLeastFree : Cond.selects RX0 yX0_takeLeastFree yX0_takeLeastFree ∈ gW := gWm 4 (by decide +kernel) rfl
theorem cd_X0_settle : Cond.code yX0_settle cX0_settle 4 none ∈ gW := gWm 528 (by decide +kernel) rfl
theorem im_X0_settle : Cond.instanceMethod yX0_settle ∈ gW := gWm 526 (by decide +kernel) rfl
theorem sl_X0_settle : Cond.selects RX0 yX0_settle yX0_settle ∈ gW := gWm 527 (by decide +kernel) rfl
theorem cd_X1_init : Cond.code yX1_init cX1_init 2 none ∈ gW := gWm 121 (by decide +kernel) rfl
theorem im_X1_init : Cond.instanceMethod yX1_init ∈ gW := gWm 120 (by decide +kernel) rfl
theorem cd_X1_at : Cond.code yX1_at cX1_at 2 (some .int) ∈ gW := gWm 292 (by decide +kernel) rfl
theorem im_X1_at : Cond.instanceMethod yX1_at ∈ gW := gWm 290 (by decide +kernel) rfl
theorem sl_X1_at : Cond.selects RX1 yX1_at yX1_at ∈ gW := gWm 291 (by decide +kernel) rfl
theorem cd_X1_put : Cond.code yX1_put cX1_put 3 none ∈ gW := gWm 508 (by decide +kernel) rfl
theorem im_X1_put : Cond.instanceMethod yX1_put ∈ gW := gWm 506 (by decide +kernel) rfl
theorem sl_X1_put : Cond.selects RX1 yX1_put yX1_put ∈ gW := gWm 507 (by decide +kernel) rfl
theorem cd_X1_fill : Cond.code yX1_fill cX1_fill 2 none ∈ gW := gWm 189 (by decide +kernel) rfl
theorem im_X1_fill : Cond.instanceMethod yX1_fill ∈ gW := gWm 187 (by decide +kernel) rfl
theorem sl_X1_fill : Cond.selects RX1 yX1_fill yX1_fill ∈ gW := gWm 188 (by decide +kernel) rfl
theorem cd_X2_init : Cond.code yX2_init cX2_init 2 none ∈ gW := gWm 135 (by decide +kernel) rfl
theorem im_X2_init : Cond.instanceMethod yX2_init ∈ gW := gWm 134 (by decide +kernel) rfl
theorem cd_X2_at : Cond.code yX2_at cX2_at 2 (some .long) ∈ gW := gWm 284 (by decide +kernel) rfl
theorem im_X2_at : Cond.instanceMethod yX2_at ∈ gW := gWm 282 (by decide +kernel) rfl
theorem sl_X2_at : Cond.selects RX2 yX2_at yX2_at ∈ gW := gWm 283 (by decide +kernel) rfl
theorem cd_X2_put : Cond.code yX2_put cX2_put 4 none ∈ gW := gWm 520 (by decide +kernel) rfl
theorem im_X2_put : Cond.instanceMethod yX2_put ∈ gW := gWm 518 (by decide +kernel) rfl
theorem sl_X2_put : Cond.selects RX2 yX2_put yX2_put ∈ gW := gWm 519 (by decide +kernel) rfl
theorem cd_X3_init : Cond.code yX3_init cX3_init 3 none ∈ gW := gWm 216 (by decide +kernel) rfl
theorem im_X3_init : Cond.instanceMethod yX3_init ∈ gW := gWm 215 (by decide +kernel) rfl
theorem cd_X3_received : Cond.code yX3_received cX3_received 1 (some .int) ∈ gW := gWm 370 (by decide +kernel) rfl
theorem im_X3_received : Cond.instanceMethod yX3_received ∈ gW := gWm 368 (by decide +kernel) rfl
theorem sl_X3_received : Cond.selects RX3 yX3_received yX3_received ∈ gW := gWm 369 (by decide +kernel) rfl
theorem cd_X3_forget : Cond.code yX3_forget cX3_forget 1 none ∈ gW := gWm 467 (by decide +kernel) rfl
theorem im_X3_forget : Cond.instanceMethod yX3_forget ∈ gW := gWm 465 (by decide +kernel) rfl
theorem sl_X3_forget : Cond.selects RX3 yX3_forget yX3_forget ∈ gW := gWm 466 (by decide +kernel) rfl
theorem cd_X3_takeBegin : Cond.code yX3_takeBegin cX3_takeBegin 5 (some .int) ∈ gW := gWm 716 (by decide +kernel) rfl
theorem im_X3_takeBegin : Cond.instanceMethod yX3_takeBegin ∈ gW := gWm 714 (by decide +kernel) rfl
theorem sl_X3_takeBegin : Cond.selects RX3 yX3_takeBegin yX3_takeBegin ∈ gW := gWm 715 (by decide +kernel) rfl
theorem cd_X3_takeRecords : Cond.code yX3_takeRecords cX3_takeRecords 4 (some .int) ∈ gW := gWm 755 (by decide +kernel) rfl
theorem im_X3_takeRecords : Cond.instanceMethod yX3_takeRecords ∈ gW := gWm 753 (by decide +kernel) rfl
theorem sl_X3_takeRecords : Cond.selects RX3 yX3_takeRecords yX3_takeRecords ∈ gW := gWm 754 (by decide +kernel) rfl
theorem cd_X3_takeRecord : Cond.code yX3_takeRecord cX3_takeRecord 4 (some .int) ∈ gW := gWm 759 (by decide +kernel) rfl
theorem im_X3_takeRecord : Cond.instanceMethod yX3_takeRecord ∈ gW := gWm 758 (by decide +kernel) rfl
theorem sl_X3_takeRecord : Cond.selects RX3 yX3_takeRecord yX3_takeRecord ∈ gW := gWm 9 (by decide +kernel) rfl
theorem cd_X3_sizeOf : Cond.code yX3_sizeOf cX3_sizeOf 1 (some .int) ∈ gW := gWm 762 (by decide +kernel) rfl
theorem st_X3_sizeOf : Cond.static yX3_sizeOf ∈ gW := gWm 761 (by decide +kernel) rfl
theorem cd_X3_takeWrite : Cond.code yX3_takeWrite cX3_takeWrite 2 (some .int) ∈ gW := gWm 766 (by decide +kernel) rfl
theorem im_X3_takeWrite : Cond.instanceMethod yX3_takeWrite ∈ gW := gWm 765 (by decide +kernel) rfl
theorem sl_X3_takeWrite : Cond.selects RX3 yX3_takeWrite yX3_takeWrite ∈ gW := gWm 10 (by decide +kernel) rfl
theorem cd_X3_takeClear : Cond.code yX3_takeClear cX3_takeClear 4 (some .int) ∈ gW := gWm 772 (by decide +kernel) rfl
theorem im_X3_takeClear : Cond.instanceMethod yX3_takeClear ∈ gW := gWm 771 (by decide +kernel) rfl
theorem sl_X3_takeClear : Cond.selects RX3 yX3_takeClear yX3_takeClear ∈ gW := gWm 11 (by decide +kernel) rfl
theorem cd_X3_takeEnd : Cond.code yX3_takeEnd cX3_takeEnd 1 (some .int) ∈ gW := gWm 777 (by decide +kernel) rfl
theorem im_X3_takeEnd : Cond.instanceMethod yX3_takeEnd ∈ gW := gWm 776 (by decide +kernel) rfl
theorem sl_X3_takeEnd : Cond.selects RX3 yX3_takeEnd yX3_takeEnd ∈ gW := gWm 12 (by decide +kernel) rfl
theorem cd_X4_init : Cond.code yX4_init cX4_init 2 none ∈ gW := gWm 87 (by decide +kernel) rfl
theorem im_X4_init : Cond.instanceMethod yX4_init ∈ gW := gWm 86 (by decide +kernel) rfl
theorem cd_X4_writes : Cond.code yX4_writes cX4_writes 1 (some .int) ∈ gW := gWm 378 (by decide +kernel) rfl
theorem im_X4_writes : Cond.instanceMethod yX4_writes ∈ gW := gWm 376 (by decide +kernel) rfl
theorem sl_X4_writes : Cond.selects RX4 yX4_writes yX4_writes ∈ gW := gWm 377 (by decide +kernel) rfl
theorem cd_X4_clears : Cond.code yX4_clears cX4_clears 1 (some .int) ∈ gW := gWm 382 (by decide +kernel) rfl
theorem im_X4_clears : Cond.instanceMethod yX4_clears ∈ gW := gWm 380 (by decide +kernel) rfl
theorem sl_X4_clears : Cond.selects RX4 yX4_clears yX4_clears ∈ gW := gWm 381 (by decide +kernel) rfl
theorem cd_X4_seen : Cond.code yX4_seen cX4_seen 1 (some .int) ∈ gW := gWm 386 (by decide +kernel) rfl
theorem im_X4_seen : Cond.instanceMethod yX4_seen ∈ gW := gWm 384 (by decide +kernel) rfl
theorem sl_X4_seen : Cond.selects RX4 yX4_seen yX4_seen ∈ gW := gWm 385 (by decide +kernel) rfl
theorem cd_X4_fillStream : Cond.code yX4_fillStream cX4_fillStream 4 none ∈ gW := gWm 659 (by decide +kernel) rfl
theorem im_X4_fillStream : Cond.instanceMethod yX4_fillStream ∈ gW := gWm 657 (by decide +kernel) rfl
theorem sl_X4_fillStream : Cond.selects RX4 yX4_fillStream yX4_fillStream ∈ gW := gWm 658 (by decide +kernel) rfl
theorem cd_X4_goOver : Cond.code yX4_goOver cX4_goOver 7 none ∈ gW := gWm 687 (by decide +kernel) rfl
theorem st_X4_goOver : Cond.static yX4_goOver ∈ gW := gWm 686 (by decide +kernel) rfl
theorem cd_X5_init : Cond.code yX5_init cX5_init 1 none ∈ gW := gWm 73 (by decide +kernel) rfl
theorem im_X5_init : Cond.instanceMethod yX5_init ∈ gW := gWm 72 (by decide +kernel) rfl
theorem cd_X5_length : Cond.code yX5_length cX5_length 1 (some .int) ∈ gW := gWm 390 (by decide +kernel) rfl
theorem im_X5_length : Cond.instanceMethod yX5_length ∈ gW := gWm 388 (by decide +kernel) rfl
theorem sl_X5_length : Cond.selects RX5 yX5_length yX5_length ∈ gW := gWm 389 (by decide +kernel) rfl
theorem cd_X5_at : Cond.code yX5_at cX5_at 2 (some .int) ∈ gW := gWm 263 (by decide +kernel) rfl
theorem im_X5_at : Cond.instanceMethod yX5_at ∈ gW := gWm 261 (by decide +kernel) rfl
theorem sl_X5_at : Cond.selects RX5 yX5_at yX5_at ∈ gW := gWm 262 (by decide +kernel) rfl
theorem cd_X5_put : Cond.code yX5_put cX5_put 3 none ∈ gW := gWm 677 (by decide +kernel) rfl
theorem im_X5_put : Cond.instanceMethod yX5_put ∈ gW := gWm 675 (by decide +kernel) rfl
theorem sl_X5_put : Cond.selects RX5 yX5_put yX5_put ∈ gW := gWm 676 (by decide +kernel) rfl
theorem cd_X5_shorten : Cond.code yX5_shorten cX5_shorten 2 none ∈ gW := gWm 664 (by decide +kernel) rfl
theorem im_X5_shorten : Cond.instanceMethod yX5_shorten ∈ gW := gWm 662 (by decide +kernel) rfl
theorem sl_X5_shorten : Cond.selects RX5 yX5_shorten yX5_shorten ∈ gW := gWm 663 (by decide +kernel) rfl
theorem cd_X5_addBegin : Cond.code yX5_addBegin cX5_addBegin 6 none ∈ gW := gWm 669 (by decide +kernel) rfl
theorem im_X5_addBegin : Cond.instanceMethod yX5_addBegin ∈ gW := gWm 667 (by decide +kernel) rfl
theorem sl_X5_addBegin : Cond.selects RX5 yX5_addBegin yX5_addBegin ∈ gW := gWm 668 (by decide +kernel) rfl
theorem cd_X5_addWrite : Cond.code yX5_addWrite cX5_addWrite 5 none ∈ gW := gWm 699 (by decide +kernel) rfl
theorem im_X5_addWrite : Cond.instanceMethod yX5_addWrite ∈ gW := gWm 697 (by decide +kernel) rfl
theorem sl_X5_addWrite : Cond.selects RX5 yX5_addWrite yX5_addWrite ∈ gW := gWm 698 (by decide +kernel) rfl
theorem cd_X5_addClear : Cond.code yX5_addClear cX5_addClear 4 none ∈ gW := gWm 693 (by decide +kernel) rfl
theorem im_X5_addClear : Cond.instanceMethod yX5_addClear ∈ gW := gWm 691 (by decide +kernel) rfl
theorem sl_X5_addClear : Cond.selects RX5 yX5_addClear yX5_addClear ∈ gW := gWm 692 (by decide +kernel) rfl
theorem cd_X5_addEnd : Cond.code yX5_addEnd cX5_addEnd 3 none ∈ gW := gWm 704 (by decide +kernel) rfl
theorem im_X5_addEnd : Cond.instanceMethod yX5_addEnd ∈ gW := gWm 702 (by decide +kernel) rfl
theorem sl_X5_addEnd : Cond.selects RX5 yX5_addEnd yX5_addEnd ∈ gW := gWm 703 (by decide +kernel) rfl
theorem cd_X5_addNumber : Cond.code yX5_addNumber cX5_addNumber 5 none ∈ gW := gWm 673 (by decide +kernel) rfl
theorem im_X5_addNumber : Cond.instanceMethod yX5_addNumber ∈ gW := gWm 672 (by decide +kernel) rfl
theorem sl_X5_addNumber : Cond.selects RX5 yX5_addNumber yX5_addNumber ∈ gW := gWm 7 (by decide +kernel) rfl
theorem cd_X5_numberAt : Cond.code yX5_numberAt cX5_numberAt 6 (some .long) ∈ gW := gWm 726 (by decide +kernel) rfl
theorem im_X5_numberAt : Cond.instanceMethod yX5_numberAt ∈ gW := gWm 724 (by decide +kernel) rfl
theorem sl_X5_numberAt : Cond.selects RX5 yX5_numberAt yX5_numberAt ∈ gW := gWm 725 (by decide +kernel) rfl
theorem cd_X5_isWhole : Cond.code yX5_isWhole cX5_isWhole 4 (some .boolean) ∈ gW := gWm 722 (by decide +kernel) rfl
theorem im_X5_isWhole : Cond.instanceMethod yX5_isWhole ∈ gW := gWm 720 (by decide +kernel) rfl
theorem sl_X5_isWhole : Cond.selects RX5 yX5_isWhole yX5_isWhole ∈ gW := gWm 721 (by decide +kernel) rfl
theorem cd_X5_sumOf : Cond.code yX5_sumOf cX5_sumOf 6 (some .long) ∈ gW := gWm 681 (by decide +kernel) rfl
theorem im_X5_sumOf : Cond.instanceMethod yX5_sumOf ∈ gW := gWm 680 (by decide +kernel) rfl
theorem sl_X5_sumOf : Cond.selects RX5 yX5_sumOf yX5_sumOf ∈ gW := gWm 8 (by decide +kernel) rfl
theorem cd_X6_init : Cond.code yX6_init cX6_init 1 none ∈ gW := gWm 109 (by decide +kernel) rfl
theorem im_X6_init : Cond.instanceMethod yX6_init ∈ gW := gWm 108 (by decide +kernel) rfl
theorem cd_X6_startAnew : Cond.code yX6_startAnew cX6_startAnew 2 none ∈ gW := gWm 181 (by decide +kernel) rfl
theorem im_X6_startAnew : Cond.instanceMethod yX6_startAnew ∈ gW := gWm 179 (by decide +kernel) rfl
theorem sl_X6_startAnew : Cond.selects RX6 yX6_startAnew yX6_startAnew ∈ gW := gWm 180 (by decide +kernel) rfl
theorem cd_X6_blocks : Cond.code yX6_blocks cX6_blocks 1 (some (.object "TwinVolumes$Blocks")) ∈ gW := gWm 296 (by decide +kernel) rfl
theorem im_X6_blocks : Cond.instanceMethod yX6_blocks ∈ gW := gWm 294 (by decide +kernel) rfl
theorem sl_X6_blocks : Cond.selects RX6 yX6_blocks yX6_blocks ∈ gW := gWm 295 (by decide +kernel) rfl
theorem cd_X6_generation : Cond.code yX6_generation cX6_generation 1 (some .int) ∈ gW := gWm 354 (by decide +kernel) rfl
theorem im_X6_generation : Cond.instanceMethod yX6_generation ∈ gW := gWm 352 (by decide +kernel) rfl
theorem sl_X6_generation : Cond.selects RX6 yX6_generation yX6_generation ∈ gW := gWm 353 (by decide +kernel) rfl
theorem cd_X6_snapshots : Cond.code yX6_snapshots cX6_snapshots 1 (some .int) ∈ gW := gWm 358 (by decide +kernel) rfl
theorem im_X6_snapshots : Cond.instanceMethod yX6_snapshots ∈ gW := gWm 356 (by decide +kernel) rfl
theorem sl_X6_snapshots : Cond.selects RX6 yX6_snapshots yX6_snapshots ∈ gW := gWm 357 (by decide +kernel) rfl
theorem cd_X6_isBusy : Cond.code yX6_isBusy cX6_isBusy 1 (some .boolean) ∈ gW := gWm 362 (by decide +kernel) rfl
theorem im_X6_isBusy : Cond.instanceMethod yX6_isBusy ∈ gW := gWm 360 (by decide +kernel) rfl
theorem sl_X6_isBusy : Cond.selects RX6 yX6_isBusy yX6_isBusy ∈ gW := gWm 361 (by decide +kernel) rfl
theorem cd_X6_hasSnapshot : Cond.code yX6_hasSnapshot cX6_hasSnapshot 2 (some .boolean) ∈ gW := gWm 275 (by decide +kernel) rfl
theorem im_X6_hasSnapshot : Cond.instanceMethod yX6_hasSnapshot ∈ gW := gWm 273 (by decide +kernel) rfl
theorem sl_X6_hasSnapshot : Cond.selects RX6 yX6_hasSnapshot yX6_hasSnapshot ∈ gW := gWm 274 (by decide +kernel) rfl
theorem cd_X6_markOf : Cond.code yX6_markOf cX6_markOf 2 (some .long) ∈ gW := gWm 280 (by decide +kernel) rfl
theorem im_X6_markOf : Cond.instanceMethod yX6_markOf ∈ gW := gWm 278 (by decide +kernel) rfl
theorem sl_X6_markOf : Cond.selects RX6 yX6_markOf yX6_markOf ∈ gW := gWm 279 (by decide +kernel) rfl
theorem cd_X6_generationOf : Cond.code yX6_generationOf cX6_generationOf 2 (some .int) ∈ gW := gWm 288 (by decide +kernel) rfl
theorem im_X6_generationOf : Cond.instanceMethod yX6_generationOf ∈ gW := gWm 286 (by decide +kernel) rfl
theorem sl_X6_generationOf : Cond.selects RX6 yX6_generationOf yX6_generationOf ∈ gW := gWm 287 (by decide +kernel) rfl
theorem cd_X6_settle : Cond.code yX6_settle cX6_settle 1 none ∈ gW := gWm 524 (by decide +kernel) rfl
theorem im_X6_settle : Cond.instanceMethod yX6_settle ∈ gW := gWm 522 (by decide +kernel) rfl
theorem sl_X6_settle : Cond.selects RX6 yX6_settle yX6_settle ∈ gW := gWm 523 (by decide +kernel) rfl
theorem cd_X6_readPlace : Cond.code yX6_readPlace cX6_readPlace 4 (some .long) ∈ gW := gWm 579 (by decide +kernel) rfl
theorem im_X6_readPlace : Cond.instanceMethod yX6_readPlace ∈ gW := gWm 577 (by decide +kernel) rfl
theorem sl_X6_readPlace : Cond.selects RX6 yX6_readPlace yX6_readPlace ∈ gW := gWm 578 (by decide +kernel) rfl
theorem cd_X6_writePlace : Cond.code yX6_writePlace cX6_writePlace 7 (some .boolean) ∈ gW := gWm 481 (by decide +kernel) rfl
theorem im_X6_writePlace : Cond.instanceMethod yX6_writePlace ∈ gW := gWm 479 (by decide +kernel) rfl
theorem sl_X6_writePlace : Cond.selects RX6 yX6_writePlace yX6_writePlace ∈ gW := gWm 480 (by decide +kernel) rfl
theorem cd_X6_clearPlace : Cond.code yX6_clearPlace cX6_clearPlace 5 (some .boolean) ∈ gW := gWm 539 (by decide +kernel) rfl
theorem im_X6_clearPlace : Cond.instanceMethod yX6_clearPlace ∈ gW := gWm 537 (by decide +kernel) rfl
theorem sl_X6_clearPlace : Cond.selects RX6 yX6_clearPlace yX6_clearPlace ∈ gW := gWm 538 (by decide +kernel) rfl
theorem cd_X6_makeHoleIfEmpty : Cond.code yX6_makeHoleIfEmpty cX6_makeHoleIfEmpty 2 none ∈ gW := gWm 548 (by decide +kernel) rfl
theorem im_X6_makeHoleIfEmpty : Cond.instanceMethod yX6_makeHoleIfEmpty ∈ gW := gWm 547 (by decide +kernel) rfl
theorem sl_X6_makeHoleIfEmpty : Cond.selects RX6 yX6_makeHoleIfEmpty yX6_makeHoleIfEmpty ∈ gW := gWm 6 (by decide +kernel) rfl
theorem cd_X6_slotToLevel : Cond.code yX6_slotToLevel cX6_slotToLevel 6 (some .int) ∈ gW := gWm 543 (by decide +kernel) rfl
theorem im_X6_slotToLevel : Cond.instanceMethod yX6_slotToLevel ∈ gW := gWm 542 (by decide +kernel) rfl
theorem sl_X6_slotToLevel : Cond.selects RX6 yX6_slotToLevel yX6_slotToLevel ∈ gW := gWm 5 (by decide +kernel) rfl
theorem cd_X6_newBlocksWanted : Cond.code yX6_newBlocksWanted cX6_newBlocksWanted 7 (some .int) ∈ gW := gWm 485 (by decide +kernel) rfl
theorem im_X6_newBlocksWanted : Cond.instanceMethod yX6_newBlocksWanted ∈ gW := gWm 484 (by decide +kernel) rfl
theorem sl_X6_newBlocksWanted : Cond.selects RX6 yX6_newBlocksWanted yX6_newBlocksWanted ∈ gW := gWm 3 (by decide +kernel) rfl
theorem cd_X6_keepLive : Cond.code yX6_keepLive cX6_keepLive 4 (some .int) ∈ gW := gWm 623 (by decide +kernel) rfl
theorem im_X6_keepLive : Cond.instanceMethod yX6_keepLive ∈ gW := gWm 621 (by decide +kernel) rfl
theorem sl_X6_keepLive : Cond.selects RX6 yX6_keepLive yX6_keepLive ∈ gW := gWm 622 (by decide +kernel) rfl
theorem cd_X6_dropSnapshot : Cond.code yX6_dropSnapshot cX6_dropSnapshot 4 (some .int) ∈ gW := gWm 637 (by decide +kernel) rfl
theorem im_X6_dropSnapshot : Cond.instanceMethod yX6_dropSnapshot ∈ gW := gWm 635 (by decide +kernel) rfl
theorem sl_X6_dropSnapshot : Cond.selects RX6 yX6_dropSnapshot yX6_dropSnapshot ∈ gW := gWm 636 (by decide +kernel) rfl
theorem cd_X6_returnToLatest : Cond.code yX6_returnToLatest cX6_returnToLatest 2 (some .int) ∈ gW := gWm 648 (by decide +kernel) rfl
theorem im_X6_returnToLatest : Cond.instanceMethod yX6_returnToLatest ∈ gW := gWm 646 (by decide +kernel) rfl
theorem sl_X6_returnToLatest : Cond.selects RX6 yX6_returnToLatest yX6_returnToLatest ∈ gW := gWm 647 (by decide +kernel) rfl
theorem cd_X6_isLatest : Cond.code yX6_isLatest cX6_isLatest 3 (some .boolean) ∈ gW := gWm 732 (by decide +kernel) rfl
theorem im_X6_isLatest : Cond.instanceMethod yX6_isLatest ∈ gW := gWm 730 (by decide +kernel) rfl
theorem sl_X6_isLatest : Cond.selects RX6 yX6_isLatest yX6_isLatest ∈ gW := gWm 731 (by decide +kernel) rfl
theorem cd_X6_hasMark : Cond.code yX6_hasMark cX6_hasMark 4 (some .boolean) ∈ gW := gWm 740 (by decide +kernel) rfl
theorem im_X6_hasMark : Cond.instanceMethod yX6_hasMark ∈ gW := gWm 738 (by decide +kernel) rfl
theorem sl_X6_hasMark : Cond.selects RX6 yX6_hasMark yX6_hasMark ∈ gW := gWm 739 (by decide +kernel) rfl
theorem cd_X6_isDirty : Cond.code yX6_isDirty cX6_isDirty 2 (some .boolean) ∈ gW := gWm 736 (by decide +kernel) rfl
theorem im_X6_isDirty : Cond.instanceMethod yX6_isDirty ∈ gW := gWm 734 (by decide +kernel) rfl
theorem sl_X6_isDirty : Cond.selects RX6 yX6_isDirty yX6_isDirty ∈ gW := gWm 735 (by decide +kernel) rfl
theorem cd_X6_makeHidden : Cond.code yX6_makeHidden cX6_makeHidden 1 none ∈ gW := gWm 744 (by decide +kernel) rfl
theorem im_X6_makeHidden : Cond.instanceMethod yX6_makeHidden ∈ gW := gWm 742 (by decide +kernel) rfl
theorem sl_X6_makeHidden : Cond.selects RX6 yX6_makeHidden yX6_makeHidden ∈ gW := gWm 743 (by decide +kernel) rfl
theorem cd_X6_dropHidden : Cond.code yX6_dropHidden cX6_dropHidden 1 none ∈ gW := gWm 788 (by decide +kernel) rfl
theorem im_X6_dropHidden : Cond.instanceMethod yX6_dropHidden ∈ gW := gWm 786 (by decide +kernel) rfl
theorem sl_X6_dropHidden : Cond.selects RX6 yX6_dropHidden yX6_dropHidden ∈ gW := gWm 787 (by decide +kernel) rfl
theorem cd_X6_keepHidden : Cond.code yX6_keepHidden cX6_keepHidden 3 none ∈ gW := gWm 782 (by decide +kernel) rfl
theorem im_X6_keepHidden : Cond.instanceMethod yX6_keepHidden ∈ gW := gWm 780 (by decide +kernel) rfl
theorem sl_X6_keepHidden : Cond.selects RX6 yX6_keepHidden yX6_keepHidden ∈ gW := gWm 781 (by decide +kernel) rfl
theorem cd_X7_init : Cond.code yX7_init cX7_init 1 none ∈ gW := gWm 65 (by decide +kernel) rfl
theorem im_X7_init : Cond.instanceMethod yX7_init ∈ gW := gWm 64 (by decide +kernel) rfl
theorem cd_X7_format : Cond.code yX7_format cX7_format 4 none ∈ gW := gWm 398 (by decide +kernel) rfl
theorem im_X7_format : Cond.instanceMethod yX7_format ∈ gW := gWm 396 (by decide +kernel) rfl
theorem sl_X7_format : Cond.selects RX7 yX7_format yX7_format ∈ gW := gWm 397 (by decide +kernel) rfl
theorem cd_X7_write : Cond.code yX7_write cX7_write 7 (some .int) ∈ gW := gWm 474 (by decide +kernel) rfl
theorem im_X7_write : Cond.instanceMethod yX7_write ∈ gW := gWm 472 (by decide +kernel) rfl
theorem sl_X7_write : Cond.selects RX7 yX7_write yX7_write ∈ gW := gWm 473 (by decide +kernel) rfl
theorem cd_X7_clear : Cond.code yX7_clear cX7_clear 5 (some .int) ∈ gW := gWm 535 (by decide +kernel) rfl
theorem im_X7_clear : Cond.instanceMethod yX7_clear ∈ gW := gWm 533 (by decide +kernel) rfl
theorem sl_X7_clear : Cond.selects RX7 yX7_clear yX7_clear ∈ gW := gWm 534 (by decide +kernel) rfl
theorem cd_X7_read : Cond.code yX7_read cX7_read 5 (some .long) ∈ gW := gWm 560 (by decide +kernel) rfl
theorem im_X7_read : Cond.instanceMethod yX7_read ∈ gW := gWm 558 (by decide +kernel) rfl
theorem sl_X7_read : Cond.selects RX7 yX7_read yX7_read ∈ gW := gWm 559 (by decide +kernel) rfl
theorem cd_X7_snapshot : Cond.code yX7_snapshot cX7_snapshot 4 (some .int) ∈ gW := gWm 589 (by decide +kernel) rfl
theorem im_X7_snapshot : Cond.instanceMethod yX7_snapshot ∈ gW := gWm 587 (by decide +kernel) rfl
theorem sl_X7_snapshot : Cond.selects RX7 yX7_snapshot yX7_snapshot ∈ gW := gWm 588 (by decide +kernel) rfl
theorem cd_X7_destroy : Cond.code yX7_destroy cX7_destroy 4 (some .int) ∈ gW := gWm 633 (by decide +kernel) rfl
theorem im_X7_destroy : Cond.instanceMethod yX7_destroy ∈ gW := gWm 631 (by decide +kernel) rfl
theorem sl_X7_destroy : Cond.selects RX7 yX7_destroy yX7_destroy ∈ gW := gWm 632 (by decide +kernel) rfl
theorem cd_X7_rollback : Cond.code yX7_rollback cX7_rollback 3 (some .int) ∈ gW := gWm 644 (by decide +kernel) rfl
theorem im_X7_rollback : Cond.instanceMethod yX7_rollback ∈ gW := gWm 642 (by decide +kernel) rfl
theorem sl_X7_rollback : Cond.selects RX7 yX7_rollback yX7_rollback ∈ gW := gWm 643 (by decide +kernel) rfl
theorem cd_X7_send : Cond.code yX7_send cX7_send 5 (some .int) ∈ gW := gWm 655 (by decide +kernel) rfl
theorem im_X7_send : Cond.instanceMethod yX7_send ∈ gW := gWm 653 (by decide +kernel) rfl
theorem sl_X7_send : Cond.selects RX7 yX7_send yX7_send ∈ gW := gWm 654 (by decide +kernel) rfl
theorem cd_X7_receive : Cond.code yX7_receive cX7_receive 2 (some .int) ∈ gW := gWm 712 (by decide +kernel) rfl
theorem im_X7_receive : Cond.instanceMethod yX7_receive ∈ gW := gWm 710 (by decide +kernel) rfl
theorem sl_X7_receive : Cond.selects RX7 yX7_receive yX7_receive ∈ gW := gWm 711 (by decide +kernel) rfl
theorem cd_X7_step : Cond.code yX7_step cX7_step 4 (some .int) ∈ gW := gWm 751 (by decide +kernel) rfl
theorem im_X7_step : Cond.instanceMethod yX7_step ∈ gW := gWm 749 (by decide +kernel) rfl
theorem sl_X7_step : Cond.selects RX7 yX7_step yX7_step ∈ gW := gWm 750 (by decide +kernel) rfl
theorem cd_X7_crash : Cond.code yX7_crash cX7_crash 4 (some .boolean) ∈ gW := gWm 795 (by decide +kernel) rfl
theorem im_X7_crash : Cond.instanceMethod yX7_crash ∈ gW := gWm 793 (by decide +kernel) rfl
theorem sl_X7_crash : Cond.selects RX7 yX7_crash yX7_crash ∈ gW := gWm 794 (by decide +kernel) rfl
theorem cd_X7_stream : Cond.code yX7_stream cX7_stream 2 (some .int) ∈ gW := gWm 259 (by decide +kernel) rfl
theorem im_X7_stream : Cond.instanceMethod yX7_stream ∈ gW := gWm 257 (by decide +kernel) rfl
theorem sl_X7_stream : Cond.selects RX7 yX7_stream yX7_stream ∈ gW := gWm 258 (by decide +kernel) rfl
theorem cd_X7_patch : Cond.code yX7_patch cX7_patch 4 (some .int) ∈ gW := gWm 803 (by decide +kernel) rfl
theorem im_X7_patch : Cond.instanceMethod yX7_patch ∈ gW := gWm 801 (by decide +kernel) rfl
theorem sl_X7_patch : Cond.selects RX7 yX7_patch yX7_patch ∈ gW := gWm 802 (by decide +kernel) rfl
theorem cd_X7_cut : Cond.code yX7_cut cX7_cut 2 none ∈ gW := gWm 811 (by decide +kernel) rfl
theorem im_X7_cut : Cond.instanceMethod yX7_cut ∈ gW := gWm 809 (by decide +kernel) rfl
theorem sl_X7_cut : Cond.selects RX7 yX7_cut yX7_cut ∈ gW := gWm 810 (by decide +kernel) rfl
theorem cd_X7_snap : Cond.code yX7_snap cX7_snap 5 (some .long) ∈ gW := gWm 267 (by decide +kernel) rfl
theorem im_X7_snap : Cond.instanceMethod yX7_snap ∈ gW := gWm 265 (by decide +kernel) rfl
theorem sl_X7_snap : Cond.selects RX7 yX7_snap yX7_snap ∈ gW := gWm 266 (by decide +kernel) rfl
theorem cd_X7_block : Cond.code yX7_block cX7_block 5 (some .int) ∈ gW := gWm 309 (by decide +kernel) rfl
theorem im_X7_block : Cond.instanceMethod yX7_block ∈ gW := gWm 307 (by decide +kernel) rfl
theorem sl_X7_block : Cond.selects RX7 yX7_block yX7_block ∈ gW := gWm 308 (by decide +kernel) rfl
theorem cd_X7_pointer : Cond.code yX7_pointer cX7_pointer 6 (some .int) ∈ gW := gWm 329 (by decide +kernel) rfl
theorem im_X7_pointer : Cond.instanceMethod yX7_pointer ∈ gW := gWm 327 (by decide +kernel) rfl
theorem sl_X7_pointer : Cond.selects RX7 yX7_pointer yX7_pointer ∈ gW := gWm 328 (by decide +kernel) rfl
theorem cd_X7_data : Cond.code yX7_data cX7_data 4 (some .long) ∈ gW := gWm 333 (by decide +kernel) rfl
theorem im_X7_data : Cond.instanceMethod yX7_data ∈ gW := gWm 331 (by decide +kernel) rfl
theorem sl_X7_data : Cond.selects RX7 yX7_data yX7_data ∈ gW := gWm 332 (by decide +kernel) rfl
theorem cd_X7_look : Cond.code yX7_look cX7_look 4 (some .int) ∈ gW := gWm 342 (by decide +kernel) rfl
theorem im_X7_look : Cond.instanceMethod yX7_look ∈ gW := gWm 340 (by decide +kernel) rfl
theorem sl_X7_look : Cond.selects RX7 yX7_look yX7_look ∈ gW := gWm 341 (by decide +kernel) rfl
theorem cd_X7_sent : Cond.code yX7_sent cX7_sent 2 (some .int) ∈ gW := gWm 374 (by decide +kernel) rfl
theorem im_X7_sent : Cond.instanceMethod yX7_sent ∈ gW := gWm 372 (by decide +kernel) rfl
theorem sl_X7_sent : Cond.selects RX7 yX7_sent yX7_sent ∈ gW := gWm 373 (by decide +kernel) rfl
theorem cd_X7_find : Cond.code yX7_find cX7_find 2 (some (.object "TwinVolumes$Volume")) ∈ gW := gWm 271 (by decide +kernel) rfl
theorem im_X7_find : Cond.instanceMethod yX7_find ∈ gW := gWm 270 (by decide +kernel) rfl
theorem sl_X7_find : Cond.selects RX7 yX7_find yX7_find ∈ gW := gWm 0 (by decide +kernel) rfl
theorem cd_X7_receivingOf : Cond.code yX7_receivingOf cX7_receivingOf 2 (some (.object "TwinVolumes$Receiving")) ∈ gW := gWm 366 (by decide +kernel) rfl
theorem im_X7_receivingOf : Cond.instanceMethod yX7_receivingOf ∈ gW := gWm 365 (by decide +kernel) rfl
theorem sl_X7_receivingOf : Cond.selects RX7 yX7_receivingOf yX7_receivingOf ∈ gW := gWm 1 (by decide +kernel) rfl
theorem cd_X7_isPlace : Cond.code yX7_isPlace cX7_isPlace 1 (some .boolean) ∈ gW := gWm 477 (by decide +kernel) rfl
theorem st_X7_isPlace : Cond.static yX7_isPlace ∈ gW := gWm 476 (by decide +kernel) rfl
theorem cd_X8_init : Cond.code yX8_init cX8_init 1 none ∈ gW := gWm 817 (by decide +kernel) rfl
theorem im_X8_init : Cond.instanceMethod yX8_init ∈ gW := gWm 816 (by decide +kernel) rfl
theorem cd_X8_thrown : Cond.code yX8_thrown cX8_thrown 1 (some .int) ∈ gW := gWm 909 (by decide +kernel) rfl
theorem im_X8_thrown : Cond.instanceMethod yX8_thrown ∈ gW := gWm 907 (by decide +kernel) rfl
theorem sl_X8_thrown : Cond.selects RX8 yX8_thrown yX8_thrown ∈ gW := gWm 908 (by decide +kernel) rfl
theorem cd_X8_isVolume : Cond.code yX8_isVolume cX8_isVolume 1 (some .boolean) ∈ gW := gWm 916 (by decide +kernel) rfl
theorem st_X8_isVolume : Cond.static yX8_isVolume ∈ gW := gWm 915 (by decide +kernel) rfl
theorem cd_X8_fresh : Cond.code yX8_fresh cX8_fresh 4 none ∈ gW := gWm 822 (by decide +kernel) rfl
theorem im_X8_fresh : Cond.instanceMethod yX8_fresh ∈ gW := gWm 821 (by decide +kernel) rfl
theorem sl_X8_fresh : Cond.selects RX8 yX8_fresh yX8_fresh ∈ gW := gWm 13 (by decide +kernel) rfl
theorem cd_X8_format : Cond.code yX8_format cX8_format 3 none ∈ gW := gWm 913 (by decide +kernel) rfl
theorem im_X8_format : Cond.instanceMethod yX8_format ∈ gW := gWm 911 (by decide +kernel) rfl
theorem sl_X8_format : Cond.selects RX8 yX8_format yX8_format ∈ gW := gWm 912 (by decide +kernel) rfl
theorem cd_X8_told : Cond.code yX8_told cX8_told 3 (some .int) ∈ gW := gWm 939 (by decide +kernel) rfl
theorem im_X8_told : Cond.instanceMethod yX8_told ∈ gW := gWm 938 (by decide +kernel) rfl
theorem sl_X8_told : Cond.selects RX8 yX8_told yX8_told ∈ gW := gWm 17 (by decide +kernel) rfl
theorem cd_X8_born : Cond.code yX8_born cX8_born 3 (some .int) ∈ gW := gWm 950 (by decide +kernel) rfl
theorem im_X8_born : Cond.instanceMethod yX8_born ∈ gW := gWm 949 (by decide +kernel) rfl
theorem sl_X8_born : Cond.selects RX8 yX8_born yX8_born ∈ gW := gWm 19 (by decide +kernel) rfl
theorem cd_X8_point : Cond.code yX8_point cX8_point 5 none ∈ gW := gWm 966 (by decide +kernel) rfl
theorem im_X8_point : Cond.instanceMethod yX8_point ∈ gW := gWm 965 (by decide +kernel) rfl
theorem sl_X8_point : Cond.selects RX8 yX8_point yX8_point ∈ gW := gWm 23 (by decide +kernel) rfl
theorem cd_X8_turn : Cond.code yX8_turn cX8_turn 2 (some .int) ∈ gW := gWm 942 (by decide +kernel) rfl
theorem st_X8_turn : Cond.static yX8_turn ∈ gW := gWm 941 (by decide +kernel) rfl
theorem cd_X8_isTree : Cond.code yX8_isTree cX8_isTree 3 (some .boolean) ∈ gW := gWm 974 (by decide +kernel) rfl
theorem im_X8_isTree : Cond.instanceMethod yX8_isTree ∈ gW := gWm 973 (by decide +kernel) rfl
theorem sl_X8_isTree : Cond.selects RX8 yX8_isTree yX8_isTree ∈ gW := gWm 25 (by decide +kernel) rfl
theorem cd_X8_sweeps : Cond.code yX8_sweeps cX8_sweeps 5 none ∈ gW := gWm 970 (by decide +kernel) rfl
theorem im_X8_sweeps : Cond.instanceMethod yX8_sweeps ∈ gW := gWm 969 (by decide +kernel) rfl
theorem sl_X8_sweeps : Cond.selects RX8 yX8_sweeps yX8_sweeps ∈ gW := gWm 24 (by decide +kernel) rfl
theorem cd_X8_begins : Cond.code yX8_begins cX8_begins 3 none ∈ gW := gWm 927 (by decide +kernel) rfl
theorem im_X8_begins : Cond.instanceMethod yX8_begins ∈ gW := gWm 926 (by decide +kernel) rfl
theorem sl_X8_begins : Cond.selects RX8 yX8_begins yX8_begins ∈ gW := gWm 14 (by decide +kernel) rfl
theorem cd_X8_freeMany : Cond.code yX8_freeMany cX8_freeMany 4 (some .int) ∈ gW := gWm 954 (by decide +kernel) rfl
theorem im_X8_freeMany : Cond.instanceMethod yX8_freeMany ∈ gW := gWm 953 (by decide +kernel) rfl
theorem sl_X8_freeMany : Cond.selects RX8 yX8_freeMany yX8_freeMany ∈ gW := gWm 20 (by decide +kernel) rfl
theorem cd_X8_take : Cond.code yX8_take cX8_take 4 (some .int) ∈ gW := gWm 962 (by decide +kernel) rfl
theorem im_X8_take : Cond.instanceMethod yX8_take ∈ gW := gWm 961 (by decide +kernel) rfl
theorem sl_X8_take : Cond.selects RX8 yX8_take yX8_take ∈ gW := gWm 22 (by decide +kernel) rfl
theorem cd_X8_ways : Cond.code yX8_ways cX8_ways 5 (some .int) ∈ gW := gWm 935 (by decide +kernel) rfl
theorem im_X8_ways : Cond.instanceMethod yX8_ways ∈ gW := gWm 934 (by decide +kernel) rfl
theorem sl_X8_ways : Cond.selects RX8 yX8_ways yX8_ways ∈ gW := gWm 16 (by decide +kernel) rfl
theorem cd_X8_wanted : Cond.code yX8_wanted cX8_wanted 6 (some .int) ∈ gW := gWm 946 (by decide +kernel) rfl
theorem im_X8_wanted : Cond.instanceMethod yX8_wanted ∈ gW := gWm 945 (by decide +kernel) rfl
theorem sl_X8_wanted : Cond.selects RX8 yX8_wanted yX8_wanted ∈ gW := gWm 18 (by decide +kernel) rfl
theorem cd_X8_renews : Cond.code yX8_renews cX8_renews 11 none ∈ gW := gWm 958 (by decide +kernel) rfl
theorem im_X8_renews : Cond.instanceMethod yX8_renews ∈ gW := gWm 957 (by decide +kernel) rfl
theorem sl_X8_renews : Cond.selects RX8 yX8_renews yX8_renews ∈ gW := gWm 21 (by decide +kernel) rfl
theorem cd_X8_writes : Cond.code yX8_writes cX8_writes 7 (some .int) ∈ gW := gWm 931 (by decide +kernel) rfl
theorem im_X8_writes : Cond.instanceMethod yX8_writes ∈ gW := gWm 930 (by decide +kernel) rfl
theorem sl_X8_writes : Cond.selects RX8 yX8_writes yX8_writes ∈ gW := gWm 15 (by decide +kernel) rfl
theorem cd_X8_hasNothing : Cond.code yX8_hasNothing cX8_hasNothing 4 (some .boolean) ∈ gW := gWm 986 (by decide +kernel) rfl
theorem im_X8_hasNothing : Cond.instanceMethod yX8_hasNothing ∈ gW := gWm 985 (by decide +kernel) rfl
theorem sl_X8_hasNothing : Cond.selects RX8 yX8_hasNothing yX8_hasNothing ∈ gW := gWm 27 (by decide +kernel) rfl
theorem cd_X8_clears : Cond.code yX8_clears cX8_clears 6 (some .int) ∈ gW := gWm 982 (by decide +kernel) rfl
theorem im_X8_clears : Cond.instanceMethod yX8_clears ∈ gW := gWm 981 (by decide +kernel) rfl
theorem sl_X8_clears : Cond.selects RX8 yX8_clears yX8_clears ∈ gW := gWm 26 (by decide +kernel) rfl
theorem cd_X8_isPlace : Cond.code yX8_isPlace cX8_isPlace 1 (some .boolean) ∈ gW := gWm 923 (by decide +kernel) rfl
theorem st_X8_isPlace : Cond.static yX8_isPlace ∈ gW := gWm 922 (by decide +kernel) rfl
theorem cd_X8_write : Cond.code yX8_write cX8_write 6 (some .int) ∈ gW := gWm 920 (by decide +kernel) rfl
theorem im_X8_write : Cond.instanceMethod yX8_write ∈ gW := gWm 918 (by decide +kernel) rfl
theorem sl_X8_write : Cond.selects RX8 yX8_write yX8_write ∈ gW := gWm 919 (by decide +kernel) rfl
theorem cd_X8_clear : Cond.code yX8_clear cX8_clear 4 (some .int) ∈ gW := gWm 978 (by decide +kernel) rfl
theorem im_X8_clear : Cond.instanceMethod yX8_clear ∈ gW := gWm 976 (by decide +kernel) rfl
theorem sl_X8_clear : Cond.selects RX8 yX8_clear yX8_clear ∈ gW := gWm 977 (by decide +kernel) rfl
theorem cd_X8_isSnap : Cond.code yX8_isSnap cX8_isSnap 3 (some .boolean) ∈ gW := gWm 994 (by decide +kernel) rfl
theorem im_X8_isSnap : Cond.instanceMethod yX8_isSnap ∈ gW := gWm 993 (by decide +kernel) rfl
theorem sl_X8_isSnap : Cond.selects RX8 yX8_isSnap yX8_isSnap ∈ gW := gWm 28 (by decide +kernel) rfl
theorem cd_X8_read : Cond.code yX8_read cX8_read 5 (some .long) ∈ gW := gWm 990 (by decide +kernel) rfl
theorem im_X8_read : Cond.instanceMethod yX8_read ∈ gW := gWm 988 (by decide +kernel) rfl
theorem sl_X8_read : Cond.selects RX8 yX8_read yX8_read ∈ gW := gWm 989 (by decide +kernel) rfl
theorem cd_X8_snaps : Cond.code yX8_snaps cX8_snaps 6 none ∈ gW := gWm 1002 (by decide +kernel) rfl
theorem im_X8_snaps : Cond.instanceMethod yX8_snaps ∈ gW := gWm 1001 (by decide +kernel) rfl
theorem sl_X8_snaps : Cond.selects RX8 yX8_snaps yX8_snaps ∈ gW := gWm 29 (by decide +kernel) rfl
theorem cd_X8_snapshot : Cond.code yX8_snapshot cX8_snapshot 2 (some .int) ∈ gW := gWm 998 (by decide +kernel) rfl
theorem im_X8_snapshot : Cond.instanceMethod yX8_snapshot ∈ gW := gWm 996 (by decide +kernel) rfl
theorem sl_X8_snapshot : Cond.selects RX8 yX8_snapshot yX8_snapshot ∈ gW := gWm 997 (by decide +kernel) rfl
theorem cd_X8_destroy : Cond.code yX8_destroy cX8_destroy 4 (some .int) ∈ gW := gWm 1006 (by decide +kernel) rfl
theorem im_X8_destroy : Cond.instanceMethod yX8_destroy ∈ gW := gWm 1004 (by decide +kernel) rfl
theorem sl_X8_destroy : Cond.selects RX8 yX8_destroy yX8_destroy ∈ gW := gWm 1005 (by decide +kernel) rfl
theorem cd_X8_rollback : Cond.code yX8_rollback cX8_rollback 3 (some .int) ∈ gW := gWm 1010 (by decide +kernel) rfl
theorem im_X8_rollback : Cond.instanceMethod yX8_rollback ∈ gW := gWm 1008 (by decide +kernel) rfl
theorem sl_X8_rollback : Cond.selects RX8 yX8_rollback yX8_rollback ∈ gW := gWm 1009 (by decide +kernel) rfl
theorem cd_X8_put : Cond.code yX8_put cX8_put 5 none ∈ gW := gWm 1018 (by decide +kernel) rfl
theorem im_X8_put : Cond.instanceMethod yX8_put ∈ gW := gWm 1017 (by decide +kernel) rfl
theorem sl_X8_put : Cond.selects RX8 yX8_put yX8_put ∈ gW := gWm 30 (by decide +kernel) rfl
theorem cd_X8_sumOf : Cond.code yX8_sumOf cX8_sumOf 6 (some .long) ∈ gW := gWm 1026 (by decide +kernel) rfl
theorem im_X8_sumOf : Cond.instanceMethod yX8_sumOf ∈ gW := gWm 1025 (by decide +kernel) rfl
theorem sl_X8_sumOf : Cond.selects RX8 yX8_sumOf yX8_sumOf ∈ gW := gWm 32 (by decide +kernel) rfl
theorem cd_X8_ends : Cond.code yX8_ends cX8_ends 1 none ∈ gW := gWm 1022 (by decide +kernel) rfl
theorem im_X8_ends : Cond.instanceMethod yX8_ends ∈ gW := gWm 1021 (by decide +kernel) rfl
theorem sl_X8_ends : Cond.selects RX8 yX8_ends yX8_ends ∈ gW := gWm 31 (by decide +kernel) rfl
theorem cd_X8_brings : Cond.code yX8_brings cX8_brings 7 (some .boolean) ∈ gW := gWm 1031 (by decide +kernel) rfl
theorem im_X8_brings : Cond.instanceMethod yX8_brings ∈ gW := gWm 1030 (by decide +kernel) rfl
theorem sl_X8_brings : Cond.selects RX8 yX8_brings yX8_brings ∈ gW := gWm 33 (by decide +kernel) rfl
theorem cd_X8_send : Cond.code yX8_send cX8_send 12 (some .int) ∈ gW := gWm 1014 (by decide +kernel) rfl
theorem im_X8_send : Cond.instanceMethod yX8_send ∈ gW := gWm 1012 (by decide +kernel) rfl
theorem sl_X8_send : Cond.selects RX8 yX8_send yX8_send ∈ gW := gWm 1013 (by decide +kernel) rfl
theorem cd_X8_number : Cond.code yX8_number cX8_number 6 (some .long) ∈ gW := gWm 1046 (by decide +kernel) rfl
theorem im_X8_number : Cond.instanceMethod yX8_number ∈ gW := gWm 1045 (by decide +kernel) rfl
theorem sl_X8_number : Cond.selects RX8 yX8_number yX8_number ∈ gW := gWm 35 (by decide +kernel) rfl
theorem cd_X8_isWhole : Cond.code yX8_isWhole cX8_isWhole 3 (some .boolean) ∈ gW := gWm 1042 (by decide +kernel) rfl
theorem im_X8_isWhole : Cond.instanceMethod yX8_isWhole ∈ gW := gWm 1041 (by decide +kernel) rfl
theorem sl_X8_isWhole : Cond.selects RX8 yX8_isWhole yX8_isWhole ∈ gW := gWm 34 (by decide +kernel) rfl
theorem cd_X8_receive : Cond.code yX8_receive cX8_receive 9 (some .int) ∈ gW := gWm 1038 (by decide +kernel) rfl
theorem im_X8_receive : Cond.instanceMethod yX8_receive ∈ gW := gWm 1036 (by decide +kernel) rfl
theorem sl_X8_receive : Cond.selects RX8 yX8_receive yX8_receive ∈ gW := gWm 1037 (by decide +kernel) rfl
theorem cd_X8_stops : Cond.code yX8_stops cX8_stops 2 none ∈ gW := gWm 1071 (by decide +kernel) rfl
theorem im_X8_stops : Cond.instanceMethod yX8_stops ∈ gW := gWm 1070 (by decide +kernel) rfl
theorem sl_X8_stops : Cond.selects RX8 yX8_stops yX8_stops ∈ gW := gWm 40 (by decide +kernel) rfl
theorem cd_X8_endsHere : Cond.code yX8_endsHere cX8_endsHere 2 (some .int) ∈ gW := gWm 1067 (by decide +kernel) rfl
theorem im_X8_endsHere : Cond.instanceMethod yX8_endsHere ∈ gW := gWm 1066 (by decide +kernel) rfl
theorem sl_X8_endsHere : Cond.selects RX8 yX8_endsHere yX8_endsHere ∈ gW := gWm 39 (by decide +kernel) rfl
theorem cd_X8_clearsHere : Cond.code yX8_clearsHere cX8_clearsHere 7 (some .int) ∈ gW := gWm 1063 (by decide +kernel) rfl
theorem im_X8_clearsHere : Cond.instanceMethod yX8_clearsHere ∈ gW := gWm 1062 (by decide +kernel) rfl
theorem sl_X8_clearsHere : Cond.selects RX8 yX8_clearsHere yX8_clearsHere ∈ gW := gWm 38 (by decide +kernel) rfl
theorem cd_X8_writesHere : Cond.code yX8_writesHere cX8_writesHere 3 (some .int) ∈ gW := gWm 1058 (by decide +kernel) rfl
theorem im_X8_writesHere : Cond.instanceMethod yX8_writesHere ∈ gW := gWm 1057 (by decide +kernel) rfl
theorem sl_X8_writesHere : Cond.selects RX8 yX8_writesHere yX8_writesHere ∈ gW := gWm 37 (by decide +kernel) rfl
theorem cd_X8_record : Cond.code yX8_record cX8_record 4 (some .int) ∈ gW := gWm 1054 (by decide +kernel) rfl
theorem im_X8_record : Cond.instanceMethod yX8_record ∈ gW := gWm 1053 (by decide +kernel) rfl
theorem sl_X8_record : Cond.selects RX8 yX8_record yX8_record ∈ gW := gWm 36 (by decide +kernel) rfl
theorem cd_X8_step : Cond.code yX8_step cX8_step 5 (some .int) ∈ gW := gWm 1050 (by decide +kernel) rfl
theorem im_X8_step : Cond.instanceMethod yX8_step ∈ gW := gWm 1048 (by decide +kernel) rfl
theorem sl_X8_step : Cond.selects RX8 yX8_step yX8_step ∈ gW := gWm 1049 (by decide +kernel) rfl
theorem cd_X8_crash : Cond.code yX8_crash cX8_crash 2 (some .boolean) ∈ gW := gWm 1075 (by decide +kernel) rfl
theorem im_X8_crash : Cond.instanceMethod yX8_crash ∈ gW := gWm 1073 (by decide +kernel) rfl
theorem sl_X8_crash : Cond.selects RX8 yX8_crash yX8_crash ∈ gW := gWm 1074 (by decide +kernel) rfl
theorem cd_X8_stream : Cond.code yX8_stream cX8_stream 2 (some .int) ∈ gW := gWm 1079 (by decide +kernel) rfl
theorem im_X8_stream : Cond.instanceMethod yX8_stream ∈ gW := gWm 1077 (by decide +kernel) rfl
theorem sl_X8_stream : Cond.selects RX8 yX8_stream yX8_stream ∈ gW := gWm 1078 (by decide +kernel) rfl
theorem cd_X8_patch : Cond.code yX8_patch cX8_patch 4 (some .int) ∈ gW := gWm 1083 (by decide +kernel) rfl
theorem im_X8_patch : Cond.instanceMethod yX8_patch ∈ gW := gWm 1081 (by decide +kernel) rfl
theorem sl_X8_patch : Cond.selects RX8 yX8_patch yX8_patch ∈ gW := gWm 1082 (by decide +kernel) rfl
theorem cd_X8_cut : Cond.code yX8_cut cX8_cut 2 none ∈ gW := gWm 1087 (by decide +kernel) rfl
theorem im_X8_cut : Cond.instanceMethod yX8_cut ∈ gW := gWm 1085 (by decide +kernel) rfl
theorem sl_X8_cut : Cond.selects RX8 yX8_cut yX8_cut ∈ gW := gWm 1086 (by decide +kernel) rfl
theorem cd_X8_snap : Cond.code yX8_snap cX8_snap 4 (some .long) ∈ gW := gWm 1091 (by decide +kernel) rfl
theorem im_X8_snap : Cond.instanceMethod yX8_snap ∈ gW := gWm 1089 (by decide +kernel) rfl
theorem sl_X8_snap : Cond.selects RX8 yX8_snap yX8_snap ∈ gW := gWm 1090 (by decide +kernel) rfl
theorem cd_X8_isBlock : Cond.code yX8_isBlock cX8_isBlock 3 (some .boolean) ∈ gW := gWm 1100 (by decide +kernel) rfl
theorem im_X8_isBlock : Cond.instanceMethod yX8_isBlock ∈ gW := gWm 1099 (by decide +kernel) rfl
theorem sl_X8_isBlock : Cond.selects RX8 yX8_isBlock yX8_isBlock ∈ gW := gWm 41 (by decide +kernel) rfl
theorem cd_X8_block : Cond.code yX8_block cX8_block 8 (some .int) ∈ gW := gWm 1096 (by decide +kernel) rfl
theorem im_X8_block : Cond.instanceMethod yX8_block ∈ gW := gWm 1094 (by decide +kernel) rfl
theorem sl_X8_block : Cond.selects RX8 yX8_block yX8_block ∈ gW := gWm 1095 (by decide +kernel) rfl
theorem cd_X8_pointer : Cond.code yX8_pointer cX8_pointer 5 (some .int) ∈ gW := gWm 1104 (by decide +kernel) rfl
theorem im_X8_pointer : Cond.instanceMethod yX8_pointer ∈ gW := gWm 1102 (by decide +kernel) rfl
theorem sl_X8_pointer : Cond.selects RX8 yX8_pointer yX8_pointer ∈ gW := gWm 1103 (by decide +kernel) rfl
theorem cd_X8_data : Cond.code yX8_data cX8_data 3 (some .long) ∈ gW := gWm 1108 (by decide +kernel) rfl
theorem im_X8_data : Cond.instanceMethod yX8_data ∈ gW := gWm 1106 (by decide +kernel) rfl
theorem sl_X8_data : Cond.selects RX8 yX8_data yX8_data ∈ gW := gWm 1107 (by decide +kernel) rfl
theorem cd_X8_look : Cond.code yX8_look cX8_look 4 (some .int) ∈ gW := gWm 1112 (by decide +kernel) rfl
theorem im_X8_look : Cond.instanceMethod yX8_look ∈ gW := gWm 1110 (by decide +kernel) rfl
theorem sl_X8_look : Cond.selects RX8 yX8_look yX8_look ∈ gW := gWm 1111 (by decide +kernel) rfl
theorem cd_X8_sent : Cond.code yX8_sent cX8_sent 2 (some .int) ∈ gW := gWm 1116 (by decide +kernel) rfl
theorem im_X8_sent : Cond.instanceMethod yX8_sent ∈ gW := gWm 1114 (by decide +kernel) rfl
theorem sl_X8_sent : Cond.selects RX8 yX8_sent yX8_sent ∈ gW := gWm 1115 (by decide +kernel) rfl
theorem cd_J9_max_7cf53 : Cond.code yJ9_max_7cf53 cJ9_max_7cf53 2 (some .int) ∈ gW := gWm 125 (by decide +kernel) rfl
theorem st_J9_max_7cf53 : Cond.static yJ9_max_7cf53 ∈ gW := gWm 124 (by decide +kernel) rfl
theorem cd_J7_fill_53178 : Cond.code yJ7_fill_53178 cJ7_fill_53178 4 none ∈ gW := gWm 192 (by decide +kernel) rfl
theorem st_J7_fill_53178 : Cond.static yJ7_fill_53178 ∈ gW := gWm 191 (by decide +kernel) rfl
theorem st_L_format : Cond.static yL_format ∈ gW := gWm 392 (by decide +kernel) rfl
theorem st_L_write : Cond.static yL_write ∈ gW := gWm 469 (by decide +kernel) rfl
theorem st_L_clear : Cond.static yL_clear ∈ gW := gWm 530 (by decide +kernel) rfl
theorem st_L_read : Cond.static yL_read ∈ gW := gWm 554 (by decide +kernel) rfl
theorem st_L_snapshot : Cond.static yL_snapshot ∈ gW := gWm 582 (by decide +kernel) rfl
theorem st_L_destroy : Cond.static yL_destroy ∈ gW := gWm 628 (by decide +kernel) rfl
theorem st_L_rollback : Cond.static yL_rollback ∈ gW := gWm 639 (by decide +kernel) rfl
theorem st_L_send : Cond.static yL_send ∈ gW := gWm 650 (by decide +kernel) rfl
theorem st_L_receive : Cond.static yL_receive ∈ gW := gWm 707 (by decide +kernel) rfl
theorem st_L_step : Cond.static yL_step ∈ gW := gWm 746 (by decide +kernel) rfl
theorem st_L_crash : Cond.static yL_crash ∈ gW := gWm 790 (by decide +kernel) rfl
theorem st_L_patch : Cond.static yL_patch ∈ gW := gWm 798 (by decide +kernel) rfl
theorem st_L_cut : Cond.static yL_cut ∈ gW := gWm 806 (by decide +kernel) rfl
theorem in_X0 : Cond.initialized RX0 ∈ gW := gWm 47 (by decide +kernel) rfl
theorem iw_X0 : ∀ w ∈ u_ws RX0 TX0 10, w ∈ gW := by
  have h : u_ws RX0 TX0 10 = ([153, 155, 157, 159, 161, 163, 165, 167, 169, 171] : List Nat).filterMap (fun i => lw_tbl[i]?) := by decide +kernel
  have h2 : (u_ws RX0 TX0 10).all goodWord = true := by decide +kernel
  intro w hw
  refine List.mem_filter.mpr ⟨?_, List.all_eq_true.mp h2 w hw⟩
  rw [h] at hw
  obtain ⟨i, -, hi⟩ := List.mem_filterMap.mp hw
  exact List.mem_of_getElem? hi
theorem in_X1 : Cond.initialized RX1 ∈ gW := gWm 48 (by decide +kernel) rfl
theorem iw_X1 : ∀ w ∈ u_ws RX1 TX1 1, w ∈ gW := by
  have h : u_ws RX1 TX1 1 = ([127] : List Nat).filterMap (fun i => lw_tbl[i]?) := by decide +kernel
  have h2 : (u_ws RX1 TX1 1).all goodWord = true := by decide +kernel
  intro w hw
  refine List.mem_filter.mpr ⟨?_, List.all_eq_true.mp h2 w hw⟩
  rw [h] at hw
  obtain ⟨i, -, hi⟩ := List.mem_filterMap.mp hw
  exact List.mem_of_getElem? hi
theorem in_X2 : Cond.initialized RX2 ∈ gW := gWm 50 (by decide +kernel) rfl
theorem iw_X2 : ∀ w ∈ u_ws RX2 TX2 1, w ∈ gW := by
  have h : u_ws RX2 TX2 1 = ([139] : List Nat).filterMap (fun i => lw_tbl[i]?) := by decide +kernel
  have h2 : (u_ws RX2 TX2 1).all goodWord = true := by decide +kernel
  intro w hw
  refine List.mem_filter.mpr ⟨?_, List.all_eq_true.mp h2 w hw⟩
  rw [h] at hw
  obtain ⟨i, -, hi⟩ := List.mem_filterMap.mp hw
  exact List.mem_of_getElem? hi
theorem in_X3 : Cond.initialized RX3 ∈ gW := gWm 52 (by decide +kernel) rfl
theorem iw_X3 : ∀ w ∈ u_ws RX3 TX3 5, w ∈ gW := by
  have h : u_ws RX3 TX3 5 = ([223, 225, 227, 229, 231] : List Nat).filterMap (fun i => lw_tbl[i]?) := by decide +kernel
  have h2 : (u_ws RX3 TX3 5).all goodWord = true := by decide +kernel
  intro w hw
  refine List.mem_filter.mpr ⟨?_, List.all_eq_true.mp h2 w hw⟩
  rw [h] at hw
  obtain ⟨i, -, hi⟩ := List.mem_filterMap.mp hw
  exact List.mem_of_getElem? hi
theorem in_X4 : Cond.initialized RX4 ∈ gW := gWm 45 (by decide +kernel) rfl
theorem iw_X4 : ∀ w ∈ u_ws RX4 TX4 5, w ∈ gW := by
  have h : u_ws RX4 TX4 5 = ([94, 96, 98, 100, 102] : List Nat).filterMap (fun i => lw_tbl[i]?) := by decide +kernel
  have h2 : (u_ws RX4 TX4 5).all goodWord = true := by decide +kernel
  intro w hw
  refine List.mem_filter.mpr ⟨?_, List.all_eq_true.mp h2 w hw⟩
  rw [h] at hw
  obtain ⟨i, -, hi⟩ := List.mem_filterMap.mp hw
  exact List.mem_of_getElem? hi
theorem in_X5 : Cond.initialized RX5 ∈ gW := gWm 44 (by decide +kernel) rfl
theorem iw_X5 : ∀ w ∈ u_ws RX5 TX5 2, w ∈ gW := by
  have h : u_ws RX5 TX5 2 = ([77, 79] : List Nat).filterMap (fun i => lw_tbl[i]?) := by decide +kernel
  have h2 : (u_ws RX5 TX5 2).all goodWord = true := by decide +kernel
  intro w hw
  refine List.mem_filter.mpr ⟨?_, List.all_eq_true.mp h2 w hw⟩
  rw [h] at hw
  obtain ⟨i, -, hi⟩ := List.mem_filterMap.mp hw
  exact List.mem_of_getElem? hi
theorem in_X6 : Cond.initialized RX6 ∈ gW := gWm 46 (by decide +kernel) rfl
theorem iw_X6 : ∀ w ∈ u_ws RX6 TX6 6, w ∈ gW := by
  have h : u_ws RX6 TX6 6 = ([199, 201, 203, 205, 207, 209] : List Nat).filterMap (fun i => lw_tbl[i]?) := by decide +kernel
  have h2 : (u_ws RX6 TX6 6).all goodWord = true := by decide +kernel
  intro w hw
  refine List.mem_filter.mpr ⟨?_, List.all_eq_true.mp h2 w hw⟩
  rw [h] at hw
  obtain ⟨i, -, hi⟩ := List.mem_filterMap.mp hw
  exact List.mem_of_getElem? hi
theorem in_X7 : Cond.initialized RX7 ∈ gW := gWm 43 (by decide +kernel) rfl
theorem iw_X7 : ∀ w ∈ u_ws RX7 TX7 7, w ∈ gW := by
  have h : u_ws RX7 TX7 7 = ([241, 243, 245, 247, 249, 251, 253] : List Nat).filterMap (fun i => lw_tbl[i]?) := by decide +kernel
  have h2 : (u_ws RX7 TX7 7).all goodWord = true := by decide +kernel
  intro w hw
  refine List.mem_filter.mpr ⟨?_, List.all_eq_true.mp h2 w hw⟩
  rw [h] at hw
  obtain ⟨i, -, hi⟩ := List.mem_filterMap.mp hw
  exact List.mem_of_getElem? hi
theorem in_X8 : Cond.initialized RX8 ∈ gW := gWm 53 (by decide +kernel) rfl
theorem iw_X8 : ∀ w ∈ u_ws RX8 TX8 27, w ∈ gW := by
  have h : u_ws RX8 TX8 27 = ([850, 852, 854, 856, 858, 860, 862, 864, 866, 868, 870, 872, 874, 876, 878, 880, 882, 884, 886, 888, 890, 892, 894, 896, 898, 900, 902] : List Nat).filterMap (fun i => lw_tbl[i]?) := by decide +kernel
  have h2 : (u_ws RX8 TX8 27).all goodWord = true := by decide +kernel
  intro w hw
  refine List.mem_filter.mpr ⟨?_, List.all_eq_true.mp h2 w hw⟩
  rw [h] at hw
  obtain ⟨i, -, hi⟩ := List.mem_filterMap.mp hw
  exact List.mem_of_getElem? hi
theorem in_J9 : Cond.initialized RJ9 ∈ gW := gWm 49 (by decide +kernel) rfl
theorem in_J7 : Cond.initialized RJ7 ∈ gW := gWm 51 (by decide +kernel) rfl
abbrev wsX0_init : List Cond := Cond.code yX0_init cX0_init 1 none :: gW
theorem eX0_init : yX0_init.cls ≠ "java/lang/invoke/MethodHandle" ∧ yX0_init.cls ≠ "java/lang/invoke/VarHandle" ∧ (parseMethodDescriptor yX0_init.desc).map (fun d => d.parameters.length) = some 0 := by decide +kernel
def tX0_init : List (Nat × Instr × Nat) := [(0, .aload_n 0, 1), (1, .invokespecial 3, 3), (4, .aload_n 0, 1), (5, .new 9, 3), (8, .dup, 1), (9, .sipush 600, 3), (12, .invokespecial 11, 3), (15, .putfield 14, 3), (18, .aload_n 0, 1), (19, .new 9, 3), (22, .dup, 1), (23, .sipush 600, 3), (26, .invokespecial 11, 3), (29, .putfield 20, 3), (32, .aload_n 0, 1), (33, .new 9, 3), (36, .dup, 1), (37, .sipush 600, 3), (40, .invokespecial 11, 3), (43, .putfield 23, 3), (46, .aload_n 0, 1), (47, .new 26, 3), (50, .dup, 1), (51, .sipush 600, 3), (54, .invokespecial 28, 3), (57, .putfield 29, 3), (60, .aload_n 0, 1), (61, .new 9, 3), (64, .dup, 1), (65, .sipush 4822, 3), (68, .invokespecial 11, 3), (71, .putfield 33, 3), (74, .aload_n 0, 1), (75, .new 9, 3), (78, .dup, 1), (79, .sipush 4822, 3), (82, .invokespecial 11, 3), (85, .putfield 36, 3), (88, .aload_n 0, 1), (89, .new 9, 3), (92, .dup, 1), (93, .sipush 600, 3), (96, .invokespecial 11, 3), (99, .putfield 39, 3), (102, .return_, 1)]
theorem DX0_init : ∀ q ∈ tX0_init, decode cX0_init q.1 = .ok (q.2.1, q.2.2) := by decide +kernel
abbrev wsX0_startAnew : List Cond := Cond.code yX0_startAnew cX0_startAnew 2 none :: gW
theorem eX0_startAnew : yX0_startAnew.cls ≠ "java/lang/invoke/MethodHandle" ∧ yX0_startAnew.cls ≠ "java/lang/invoke/VarHandle" ∧ (parseMethodDescriptor yX0_startAnew.desc).map (fun d => d.parameters.length) = some 1 := by decide +kernel
def tX0_startAnew : List (Nat × Instr × Nat) := [(0, .aload_n 0, 1), (1, .getfield 14, 3), (4, .iconst (-1), 1), (5, .invokevirtual 42, 3), (8, .aload_n 0, 1), (9, .getfield 23, 3), (12, .iconst 0, 1), (13, .invokevirtual 42, 3), (16, .aload_n 0, 1), (17, .getfield 33, 3), (20, .iconst (-1), 1), (21, .invokevirtual 42, 3), (24, .aload_n 0, 1), (25, .getfield 36, 3), (28, .iconst 0, 1), (29, .invokevirtual 42, 3), (32, .aload_n 0, 1), (33, .iconst 0, 1), (34, .putfield 45, 3), (37, .aload_n 0, 1), (38, .iload_n 1, 1), (39, .putfield 49, 3), (42, .aload_n 0, 1), (43, .iload_n 1, 1), (44, .putfield 52, 3), (47, .return_, 1)]
theorem DX0_startAnew : ∀ q ∈ tX0_startAnew, decode cX0_startAnew q.1 = .ok (q.2.1, q.2.2) := by decide +kernel
abbrev wsX0_count : List Cond := Cond.code yX0_count cX0_count 1 (some .int) :: gW
theorem eX0_count : yX0_count.cls ≠ "java/lang/invoke/MethodHandle" ∧ yX0_count.cls ≠ "java/lang/invoke/VarHandle" ∧ (parseMethodDescriptor yX0_count.desc).map (fun d => d.parameters.length) = some 0 := by decide +kernel
def tX0_count : List (Nat × Instr × Nat) := [(0, .aload_n 0, 1), (1, .getfield 49, 3), (4, .ireturn, 1)]
theorem DX0_count : ∀ q ∈ tX0_count, decode cX0_count q.1 = .ok (q.2.1, q.2.2) := by decide +kernel
abbrev wsX0_free : List Cond := Cond.code yX0_free cX0_free 1 (some .int) :: gW
theorem eX0_free : yX0_free.cls ≠ "java/lang/invoke/MethodHandle" ∧ yX0_free.cls ≠ "java/lang/invoke/VarHandle" ∧ (parseMethodDescriptor yX0_free.desc).map (fun d => d.parameters.length) = some 0 := by decide +kernel
def tX0_free : List (Nat × Instr × Nat) := [(0, .aload_n 0, 1), (1, .getfield 52, 3), (4, .ireturn, 1)]
theorem DX0_free : ∀ q ∈ tX0_free, decode cX0_free q.1 = .ok (q.2.1, q.2.2) := by decide +kernel
abbrev wsX0_has : List Cond := Cond.code yX0_has cX0_has 2 (some .boolean) :: gW
theorem eX0_has : yX0_has.cls ≠ "java/lang/invoke/MethodHandle" ∧ yX0_has.cls ≠ "java/lang/invoke/VarHandle" ∧ (parseMethodDescriptor yX0_has.desc).map (fun d => d.parameters.length) = some 1 := by decide +kernel
def tX0_has : List (Nat × Instr × Nat) := [(0, .iload_n 1, 1), (1, .ifCond .lt 15, 3), (4, .iload_n 1, 1), (5, .aload_n 0, 1), (6, .getfield 49, 3), (9, .if_icmp .ge 7, 3), (12, .iconst 1, 1), (13, .goto 4, 3), (16, .iconst 0, 1), (17, .ireturn, 1)]
theorem DX0_has : ∀ q ∈ tX0_has, decode cX0_has q.1 = .ok (q.2.1, q.2.2) := by decide +kernel
abbrev wsX0_level : List Cond := Cond.code yX0_level cX0_level 2 (some .int) :: gW
theorem eX0_level : yX0_level.cls ≠ "java/lang/invoke/MethodHandle" ∧ yX0_level.cls ≠ "java/lang/invoke/VarHandle" ∧ (parseMethodDescriptor yX0_level.desc).map (fun d => d.parameters.length) = some 1 := by decide +kernel
def tX0_level : List (Nat × Instr × Nat) := [(0, .aload_n 0, 1), (1, .getfield 14, 3), (4, .iload_n 1, 1), (5, .invokevirtual 55, 3), (8, .ireturn, 1)]
theorem DX0_level : ∀ q ∈ tX0_level, decode cX0_level q.1 = .ok (q.2.1, q.2.2) := by decide +kernel
abbrev wsX0_birthOfBlock : List Cond := Cond.code yX0_birthOfBlock cX0_birthOfBlock 2 (some .int) :: gW
theorem eX0_birthOfBlock : yX0_birthOfBlock.cls ≠ "java/lang/invoke/MethodHandle" ∧ yX0_birthOfBlock.cls ≠ "java/lang/invoke/VarHandle" ∧ (parseMethodDescriptor yX0_birthOfBlock.desc).map (fun d => d.parameters.length) = some 1 := by decide +kernel
def tX0_birthOfBlock : List (Nat × Instr × Nat) := [(0, .aload_n 0, 1), (1, .getfield 14, 3), (4, .iload_n 1, 1), (5, .invokevirtual 55, 3), (8, .iconst (-1), 1), (9, .if_icmp .ne 7, 3), (12, .iconst (-1), 1), (13, .goto 11, 3), (16, .aload_n 0, 1), (17, .getfield 20, 3), (20, .iload_n 1, 1), (21, .invokevirtual 55, 3), (24, .ireturn, 1)]
theorem DX0_birthOfBlock : ∀ q ∈ tX0_birthOfBlock, decode cX0_birthOfBlock q.1 = .ok (q.2.1, q.2.2) := by decide +kernel
abbrev wsX0_tellers : List Cond := Cond.code yX0_tellers cX0_tellers 2 (some .int) :: gW
theorem eX0_tellers : yX0_tellers.cls ≠ "java/lang/invoke/MethodHandle" ∧ yX0_tellers.cls ≠ "java/lang/invoke/VarHandle" ∧ (parseMethodDescriptor yX0_tellers.desc).map (fun d => d.parameters.length) = some 1 := by decide +kernel
def tX0_tellers : List (Nat × Instr × Nat) := [(0, .aload_n 0, 1), (1, .getfield 23, 3), (4, .iload_n 1, 1), (5, .invokevirtual 55, 3), (8, .ireturn, 1)]
theorem DX0_tellers : ∀ q ∈ tX0_tellers, decode cX0_tellers q.1 = .ok (q.2.1, q.2.2) := by decide +kernel
abbrev wsX0_number : List Cond := Cond.code yX0_number cX0_number 2 (some .long) :: gW
theorem eX0_number : yX0_number.cls ≠ "java/lang/invoke/MethodHandle" ∧ yX0_number.cls ≠ "java/lang/invoke/VarHandle" ∧ (parseMethodDescriptor yX0_number.desc).map (fun d => d.parameters.length) = some 1 := by decide +kernel
def tX0_number : List (Nat × Instr × Nat) := [(0, .aload_n 0, 1), (1, .getfield 29, 3), (4, .iload_n 1, 1), (5, .invokevirtual 59, 3), (8, .lreturn, 1)]
theorem DX0_number : ∀ q ∈ tX0_number, decode cX0_number q.1 = .ok (q.2.1, q.2.2) := by decide +kernel
abbrev wsX0_putNumber : List Cond := Cond.code yX0_putNumber cX0_putNumber 4 none :: gW
theorem eX0_putNumber : yX0_putNumber.cls ≠ "java/lang/invoke/MethodHandle" ∧ yX0_putNumber.cls ≠ "java/lang/invoke/VarHandle" ∧ (parseMethodDescriptor yX0_putNumber.desc).map (fun d => d.parameters.length) = some 2 := by decide +kernel
def tX0_putNumber : List (Nat × Instr × Nat) := [(0, .aload_n 0, 1), (1, .getfield 29, 3), (4, .iload_n 1, 1), (5, .lload_n 2, 1), (6, .invokevirtual 62, 3), (9, .return_, 1)]
theorem DX0_putNumber : ∀ q ∈ tX0_putNumber, decode cX0_putNumber q.1 = .ok (q.2.1, q.2.2) := by decide +kernel
abbrev wsX0_told : List Cond := Cond.code yX0_told cX0_told 2 (some .int) :: gW
theorem eX0_told : yX0_told.cls ≠ "java/lang/invoke/MethodHandle" ∧ yX0_told.cls ≠ "java/lang/invoke/VarHandle" ∧ (parseMethodDescriptor yX0_told.desc).map (fun d => d.parameters.length) = some 1 := by decide +kernel
def tX0_told : List (Nat × Instr × Nat) := [(0, .aload_n 0, 1), (1, .getfield 33, 3), (4, .iload_n 1, 1), (5, .invokevirtual 55, 3), (8, .ireturn, 1)]
theorem DX0_told : ∀ q ∈ tX0_told, decode cX0_told q.1 = .ok (q.2.1, q.2.2) := by decide +kernel
abbrev wsX0_birth : List Cond := Cond.code yX0_birth cX0_birth 2 (some .int) :: gW
theorem eX0_birth : yX0_birth.cls ≠ "java/lang/invoke/MethodHandle" ∧ yX0_birth.cls ≠ "java/lang/invoke/VarHandle" ∧ (parseMethodDescriptor yX0_birth.desc).map (fun d => d.parameters.length) = some 1 := by decide +kernel
def tX0_birth : List (Nat × Instr × Nat) := [(0, .aload_n 0, 1), (1, .getfield 36, 3), (4, .iload_n 1, 1), (5, .invokevirtual 55, 3), (8, .ireturn, 1)]
theorem DX0_birth : ∀ q ∈ tX0_birth, decode cX0_birth q.1 = .ok (q.2.1, q.2.2) := by decide +kernel
abbrev wsX0_slotIn : List Cond := Cond.code yX0_slotIn cX0_slotIn 4 (some .int) :: gW
theorem eX0_slotIn : yX0_slotIn.cls ≠ "java/lang/invoke/MethodHandle" ∧ yX0_slotIn.cls ≠ "java/lang/invoke/VarHandle" ∧ (parseMethodDescriptor yX0_slotIn.desc).map (fun d => d.parameters.length) = some 2 := by decide +kernel
def tX0_slotIn : List (Nat × Instr × Nat) := [(0, .aload_n 0, 1), (1, .getfield 14, 3), (4, .iload_n 1, 1), (5, .invokevirtual 55, 3), (8, .istore_n 3, 1), (9, .iload_n 3, 1), (10, .iconst 1, 1), (11, .if_icmp .ge 5, 3), (14, .iconst (-1), 1), (15, .ireturn, 1), (16, .iload_n 1, 1), (17, .bipush 8, 2), (19, .imul, 1), (20, .iload_n 2, 1), (21, .iconst 3, 1), (22, .iload_n 3, 1), (23, .iconst 1, 1), (24, .isub, 1), (25, .imul, 1), (26, .ishr, 1), (27, .bipush 7, 2), (29, .iand, 1), (30, .iadd, 1), (31, .ireturn, 1)]
theorem DX0_slotIn : ∀ q ∈ tX0_slotIn, decode cX0_slotIn q.1 = .ok (q.2.1, q.2.2) := by decide +kernel
abbrev wsX0_point : List Cond := Cond.code yX0_point cX0_point 5 none :: gW
theorem eX0_point : yX0_point.cls ≠ "java/lang/invoke/MethodHandle" ∧ yX0_point.cls ≠ "java/lang/invoke/VarHandle" ∧ (parseMethodDescriptor yX0_point.desc).map (fun d => d.parameters.length) = some 3 := by decide +kernel
def tX0_point : List (Nat × Instr × Nat) := [(0, .aload_n 0, 1), (1, .getfield 33, 3), (4, .iload_n 1, 1), (5, .invokevirtual 55, 3), (8, .istore 4, 2), (10, .iload_n 2, 1), (11, .iconst (-1), 1), (12, .if_icmp .eq 21, 3), (15, .aload_n 0, 1), (16, .getfield 23, 3), (19, .iload_n 2, 1), (20, .aload_n 0, 1), (21, .getfield 23, 3), (24, .iload_n 2, 1), (25, .invokevirtual 55, 3), (28, .iconst 1, 1), (29, .iadd, 1), (30, .invokevirtual 66, 3), (33, .aload_n 0, 1), (34, .getfield 33, 3), (37, .iload_n 1, 1), (38, .iload_n 2, 1), (39, .invokevirtual 66, 3), (42, .aload_n 0, 1), (43, .getfield 36, 3), (46, .iload_n 1, 1), (47, .iload_n 3, 1), (48, .invokevirtual 66, 3), (51, .iload 4, 2), (53, .iconst (-1), 1), (54, .if_icmp .eq 58, 3), (57, .aload_n 0, 1), (58, .getfield 23, 3), (61, .iload 4, 2), (63, .aload_n 0, 1), (64, .getfield 23, 3), (67, .iload 4, 2), (69, .invokevirtual 55, 3), (72, .iconst 1, 1), (73, .isub, 1), (74, .invokevirtual 66, 3), (77, .aload_n 0, 1), (78, .getfield 23, 3), (81, .iload 4, 2), (83, .invokevirtual 55, 3), (86, .ifCond .ne 26, 3), (89, .aload_n 0, 1), (90, .getfield 39, 3), (93, .aload_n 0, 1), (94, .getfield 45, 3), (97, .iload 4, 2), (99, .invokevirtual 66, 3), (102, .aload_n 0, 1), (103, .dup, 1), (104, .getfield 45, 3), (107, .iconst 1, 1), (108, .iadd, 1), (109, .putfield 45, 3), (112, .return_, 1)]
theorem DX0_point : ∀ q ∈ tX0_point, decode cX0_point q.1 = .ok (q.2.1, q.2.2) := by decide +kernel
abbrev wsX0_hasOnlyHoles : List Cond := Cond.code yX0_hasOnlyHoles cX0_hasOnlyHoles 3 (some .boolean) :: gW
theorem eX0_hasOnlyHoles : yX0_hasOnlyHoles.cls ≠ "java/lang/invoke/MethodHandle" ∧ yX0_hasOnlyHoles.cls ≠ "java/lang/invoke/VarHandle" ∧ (parseMethodDescriptor yX0_hasOnlyHoles.desc).map (fun d => d.parameters.length) = some 1 := by decide +kernel
def tX0_hasOnlyHoles : List (Nat × Instr × Nat) := [(0, .iconst 0, 1), (1, .istore_n 2, 1), (2, .iload_n 2, 1), (3, .bipush 8, 2), (5, .if_icmp .ge 28, 3), (8, .aload_n 0, 1), (9, .getfield 33, 3), (12, .iload_n 1, 1), (13, .bipush 8, 2), (15, .imul, 1), (16, .iload_n 2, 1), (17, .iadd, 1), (18, .invokevirtual 55, 3), (21, .iconst (-1), 1), (22, .if_icmp .eq 5, 3), (25, .iconst 0, 1), (26, .ireturn, 1), (27, .iinc 2 1, 3), (30, .goto (-28), 3), (33, .iconst 1, 1), (34, .ireturn, 1)]
theorem DX0_hasOnlyHoles : ∀ q ∈ tX0_hasOnlyHoles, decode cX0_hasOnlyHoles q.1 = .ok (q.2.1, q.2.2) := by decide +kernel
abbrev wsX0_wantsNewBlock : List Cond := Cond.code yX0_wantsNewBlock cX0_wantsNewBlock 3 (some .boolean) :: gW
theorem eX0_wantsNewBlock : yX0_wantsNewBlock.cls ≠ "java/lang/invoke/MethodHandle" ∧ yX0_wantsNewBlock.cls ≠ "java/lang/invoke/VarHandle" ∧ (parseMethodDescriptor yX0_wantsNewBlock.desc).map (fun d => d.parameters.length) = some 2 := by decide +kernel
def tX0_wantsNewBlock : List (Nat × Instr × Nat) := [(0, .aload_n 0, 1), (1, .getfield 33, 3), (4, .iload_n 1, 1), (5, .invokevirtual 55, 3), (8, .iconst (-1), 1), (9, .if_icmp .eq 15, 3), (12, .aload_n 0, 1), (13, .getfield 36, 3), (16, .iload_n 1, 1), (17, .invokevirtual 55, 3), (20, .iload_n 2, 1), (21, .if_icmp .eq 7, 3), (24, .iconst 1, 1), (25, .goto 4, 3), (28, .iconst 0, 1), (29, .ireturn, 1)]
theorem DX0_wantsNewBlock : ∀ q ∈ tX0_wantsNewBlock, decode cX0_wantsNewBlock q.1 = .ok (q.2.1, q.2.2) := by decide +kernel
abbrev wsX0_renew : List Cond := Cond.code yX0_renew cX0_renew 7 none :: gW
theorem eX0_renew : yX0_renew.cls ≠ "java/lang/invoke/MethodHandle" ∧ yX0_renew.cls ≠ "java/lang/invoke/VarHandle" ∧ (parseMethodDescriptor yX0_renew.desc).map (fun d => d.parameters.length) = some 3 := by decide +kernel
def tX0_renew : List (Nat × Instr × Nat) := [(0, .aload_n 0, 1), (1, .iload_n 1, 1), (2, .iload_n 3, 1), (3, .invokevirtual 69, 3), (6, .ifCond .ne 4, 3), (9, .return_, 1), (10, .aload_n 0, 1), (11, .invokevirtual 73, 3), (14, .istore 4, 2), (16, .aload_n 0, 1), (17, .getfield 14, 3), (20, .iload 4, 2), (22, .iload_n 2, 1), (23, .invokevirtual 66, 3), (26, .aload_n 0, 1), (27, .getfield 20, 3), (30, .iload 4, 2), (32, .iload_n 3, 1), (33, .invokevirtual 66, 3), (36, .aload_n 0, 1), (37, .getfield 33, 3), (40, .iload_n 1, 1), (41, .invokevirtual 55, 3), (44, .istore 5, 2), (46, .iconst 0, 1), (47, .istore 6, 2), (49, .iload 6, 2), (51, .bipush 8, 2), (53, .if_icmp .ge 85, 3), (56, .iload_n 2, 1), (57, .ifCond .le 81, 3), (60, .iload 5, 2), (62, .iconst (-1), 1), (63, .if_icmp .ne 27, 3), (66, .aload_n 0, 1), (67, .iload 4, 2), (69, .bipush 8, 2), (71, .imul, 1), (72, .iload 6, 2), (74, .iadd, 1), (75, .iconst (-1), 1), (76, .aload_n 0, 1), (77, .getfield 36, 3), (80, .iload_n 1, 1), (81, .invokevirtual 55, 3), (84, .invokevirtual 77, 3), (87, .goto 45, 3), (90, .aload_n 0, 1), (91, .iload 4, 2), (93, .bipush 8, 2), (95, .imul, 1), (96, .iload 6, 2), (98, .iadd, 1), (99, .aload_n 0, 1), (100, .getfield 33, 3), (103, .iload 5, 2), (105, .bipush 8, 2), (107, .imul, 1), (108, .iload 6, 2), (110, .iadd, 1), (111, .invokevirtual 55, 3), (114, .aload_n 0, 1), (115, .getfield 36, 3), (118, .iload 5, 2), (120, .bipush 8, 2), (122, .imul, 1), (123, .iload 6, 2), (125, .iadd, 1), (126, .invokevirtual 55, 3), (129, .invokevirtual 77, 3), (132, .iinc 6 1, 3), (135, .goto (-86), 3), (138, .aload_n 0, 1), (139, .iload_n 1, 1), (140, .iload 4, 2), (142, .iload_n 3, 1), (143, .invokevirtual 77, 3), (146, .return_, 1)]
theorem DX0_renew : ∀ q ∈ tX0_renew, decode cX0_renew q.1 = .ok (q.2.1, q.2.2) := by decide +kernel
abbrev wsX0_takeLeastFree : List Cond := Cond.code yX0_takeLeastFree cX0_takeLeastFree 2 (some .int) :: gW
theorem eX0_takeLeastFree : yX0_takeLeastFree.cls ≠ "java/lang/invoke/MethodHandle" ∧ yX0_takeLeastFree.cls ≠ "java/lang/invoke/VarHandle" ∧ (parseMethodDescriptor yX0_takeLeastFree.desc).map (fun d => d.parameters.length) = some 0 := by decide +kernel
def tX0_takeLeastFree : List (Nat × Instr × Nat) := [(0, .iconst 0, 1), (1, .istore_n 1, 1), (2, .iload_n 1, 1), (3, .aload_n 0, 1), (4, .getfield 49, 3), (7, .if_icmp .ge 33, 3), (10, .aload_n 0, 1), (11, .getfield 14, 3), (14, .iload_n 1, 1), (15, .invokevirtual 55, 3), (18, .iconst (-1), 1), (19, .if_icmp .ne 15, 3), (22, .aload_n 0, 1), (23, .dup, 1), (24, .getfield 52, 3), (27, .iconst 1, 1), (28, .isub, 1), (29, .putfield 52, 3), (32, .iload_n 1, 1), (33, .ireturn, 1), (34, .iinc 1 1, 3), (37, .goto (-35), 3), (40, .iconst (-1), 1), (41, .ireturn, 1)]
theorem DX0_takeLeastFree : ∀ q ∈ tX0_takeLeastFree, decode cX0_takeLeastFree q.1 = .ok (q.2.1, q.2.2) := by decide +kernel
abbrev wsX0_settle : List Cond := Cond.code yX0_settle cX0_settle 4 none :: gW
theorem eX0_settle : yX0_settle.cls ≠ "java/lang/invoke/MethodHandle" ∧ yX0_settle.cls ≠ "java/lang/invoke/VarHandle" ∧ (parseMethodDescriptor yX0_settle.desc).map (fun d => d.parameters.length) = some 0 := by decide +kernel
def tX0_settle : List (Nat × Instr × Nat) := [(0, .iconst 0, 1), (1, .istore_n 1, 1), (2, .iload_n 1, 1), (3, .sipush 600, 3), (6, .if_icmp .ge 94, 3), (9, .aload_n 0, 1), (10, .getfield 45, 3), (13, .ifCond .le 87, 3), (16, .aload_n 0, 1), (17, .dup, 1), (18, .getfield 45, 3), (21, .iconst 1, 1), (22, .isub, 1), (23, .putfield 45, 3), (26, .aload_n 0, 1), (27, .getfield 39, 3), (30, .aload_n 0, 1), (31, .getfield 45, 3), (34, .invokevirtual 55, 3), (37, .istore_n 2, 1), (38, .iconst 0, 1), (39, .istore_n 3, 1), (40, .iload_n 3, 1), (41, .bipush 8, 2), (43, .if_icmp .ge 32, 3), (46, .aload_n 0, 1), (47, .getfield 14, 3), (50, .iload_n 2, 1), (51, .invokevirtual 55, 3), (54, .ifCond .le 21, 3), (57, .aload_n 0, 1), (58, .iload_n 2, 1), (59, .bipush 8, 2), (61, .imul, 1), (62, .iload_n 3, 1), (63, .iadd, 1), (64, .iconst (-1), 1), (65, .iconst 0, 1), (66, .invokevirtual 77, 3), (69, .iinc 3 1, 3), (72, .goto (-32), 3), (75, .aload_n 0, 1), (76, .getfield 14, 3), (79, .iload_n 2, 1), (80, .iconst (-1), 1), (81, .invokevirtual 66, 3), (84, .aload_n 0, 1), (85, .dup, 1), (86, .getfield 52, 3), (89, .iconst 1, 1), (90, .iadd, 1), (91, .putfield 52, 3), (94, .iinc 1 1, 3), (97, .goto (-95), 3), (100, .return_, 1)]
theorem DX0_settle : ∀ q ∈ tX0_settle, decode cX0_settle q.1 = .ok (q.2.1, q.2.2) := by decide +kernel
abbrev wsX1_init : List Cond := Cond.code yX1_init cX1_init 2 none :: gW
theorem eX1_init : yX1_init.cls ≠ "java/lang/invoke/MethodHandle" ∧ yX1_init.cls ≠ "java/lang/invoke/VarHandle" ∧ (parseMethodDescriptor yX1_init.desc).map (fun d => d.parameters.length) = some 1 := by decide +kernel
def tX1_init : List (Nat × Instr × Nat) := [(0, .aload_n 0, 1), (1, .invokespecial 3, 3), (4, .aload_n 0, 1), (5, .iload_n 1, 1), (6, .iconst 0, 1), (7, .invokestatic 9, 3), (10, .newarray .int, 2), (12, .putfield 15, 3), (15, .return_, 1)]
theorem DX1_init : ∀ q ∈ tX1_init, decode cX1_init q.1 = .ok (q.2.1, q.2.2) := by decide +kernel
abbrev wsX1_at : List Cond := Cond.code yX1_at cX1_at 2 (some .int) :: gW
theorem eX1_at : yX1_at.cls ≠ "java/lang/invoke/MethodHandle" ∧ yX1_at.cls ≠ "java/lang/invoke/VarHandle" ∧ (parseMethodDescriptor yX1_at.desc).map (fun d => d.parameters.length) = some 1 := by decide +kernel
def tX1_at : List (Nat × Instr × Nat) := [(0, .iload_n 1, 1), (1, .ifCond .lt 21, 3), (4, .iload_n 1, 1), (5, .aload_n 0, 1), (6, .getfield 15, 3), (9, .arraylength, 1), (10, .if_icmp .ge 12, 3), (13, .aload_n 0, 1), (14, .getfield 15, 3), (17, .iload_n 1, 1), (18, .iaload, 1), (19, .goto 4, 3), (22, .iconst (-1), 1), (23, .ireturn, 1)]
theorem DX1_at : ∀ q ∈ tX1_at, decode cX1_at q.1 = .ok (q.2.1, q.2.2) := by decide +kernel
abbrev wsX1_put : List Cond := Cond.code yX1_put cX1_put 3 none :: gW
theorem eX1_put : yX1_put.cls ≠ "java/lang/invoke/MethodHandle" ∧ yX1_put.cls ≠ "java/lang/invoke/VarHandle" ∧ (parseMethodDescriptor yX1_put.desc).map (fun d => d.parameters.length) = some 2 := by decide +kernel
def tX1_put : List (Nat × Instr × Nat) := [(0, .iload_n 1, 1), (1, .ifCond .lt 19, 3), (4, .iload_n 1, 1), (5, .aload_n 0, 1), (6, .getfield 15, 3), (9, .arraylength, 1), (10, .if_icmp .ge 10, 3), (13, .aload_n 0, 1), (14, .getfield 15, 3), (17, .iload_n 1, 1), (18, .iload_n 2, 1), (19, .iastore, 1), (20, .return_, 1)]
theorem DX1_put : ∀ q ∈ tX1_put, decode cX1_put q.1 = .ok (q.2.1, q.2.2) := by decide +kernel
abbrev wsX1_fill : List Cond := Cond.code yX1_fill cX1_fill 2 none :: gW
theorem eX1_fill : yX1_fill.cls ≠ "java/lang/invoke/MethodHandle" ∧ yX1_fill.cls ≠ "java/lang/invoke/VarHandle" ∧ (parseMethodDescriptor yX1_fill.desc).map (fun d => d.parameters.length) = some 1 := by decide +kernel
def tX1_fill : List (Nat × Instr × Nat) := [(0, .aload_n 0, 1), (1, .getfield 15, 3), (4, .iload_n 1, 1), (5, .invokestatic 21, 3), (8, .return_, 1)]
theorem DX1_fill : ∀ q ∈ tX1_fill, decode cX1_fill q.1 = .ok (q.2.1, q.2.2) := by decide +kernel
abbrev wsX2_init : List Cond := Cond.code yX2_init cX2_init 2 none :: gW
theorem eX2_init : yX2_init.cls ≠ "java/lang/invoke/MethodHandle" ∧ yX2_init.cls ≠ "java/lang/invoke/VarHandle" ∧ (parseMethodDescriptor yX2_init.desc).map (fun d => d.parameters.length) = some 1 := by decide +kernel
def tX2_init : List (Nat × Instr × Nat) := [(0, .aload_n 0, 1), (1, .invokespecial 1, 3), (4, .aload_n 0, 1), (5, .iload_n 1, 1), (6, .iconst 0, 1), (7, .invokestatic 7, 3), (10, .newarray .long, 2), (12, .putfield 13, 3), (15, .return_, 1)]
theorem DX2_init : ∀ q ∈ tX2_init, decode cX2_init q.1 = .ok (q.2.1, q.2.2) := by decide +kernel
abbrev wsX2_at : List Cond := Cond.code yX2_at cX2_at 2 (some .long) :: gW
theorem eX2_at : yX2_at.cls ≠ "java/lang/invoke/MethodHandle" ∧ yX2_at.cls ≠ "java/lang/invoke/VarHandle" ∧ (parseMethodDescriptor yX2_at.desc).map (fun d => d.parameters.length) = some 1 := by decide +kernel
def tX2_at : List (Nat × Instr × Nat) := [(0, .iload_n 1, 1), (1, .ifCond .lt 21, 3), (4, .iload_n 1, 1), (5, .aload_n 0, 1), (6, .getfield 13, 3), (9, .arraylength, 1), (10, .if_icmp .ge 12, 3), (13, .aload_n 0, 1), (14, .getfield 13, 3), (17, .iload_n 1, 1), (18, .laload, 1), (19, .goto 4, 3), (22, .lconst 0, 1), (23, .lreturn, 1)]
theorem DX2_at : ∀ q ∈ tX2_at, decode cX2_at q.1 = .ok (q.2.1, q.2.2) := by decide +kernel
abbrev wsX2_put : List Cond := Cond.code yX2_put cX2_put 4 none :: gW
theorem eX2_put : yX2_put.cls ≠ "java/lang/invoke/MethodHandle" ∧ yX2_put.cls ≠ "java/lang/invoke/VarHandle" ∧ (parseMethodDescriptor yX2_put.desc).map (fun d => d.parameters.length) = some 2 := by decide +kernel
def tX2_put : List (Nat × Instr × Nat) := [(0, .iload_n 1, 1), (1, .ifCond .lt 19, 3), (4, .iload_n 1, 1), (5, .aload_n 0, 1), (6, .getfield 13, 3), (9, .arraylength, 1), (10, .if_icmp .ge 10, 3), (13, .aload_n 0, 1), (14, .getfield 13, 3), (17, .iload_n 1, 1), (18, .lload_n 2, 1), (19, .lastore, 1), (20, .return_, 1)]
theorem DX2_put : ∀ q ∈ tX2_put, decode cX2_put q.1 = .ok (q.2.1, q.2.2) := by decide +kernel
abbrev wsX3_init : List Cond := Cond.code yX3_init cX3_init 3 none :: gW
theorem eX3_init : yX3_init.cls ≠ "java/lang/invoke/MethodHandle" ∧ yX3_init.cls ≠ "java/lang/invoke/VarHandle" ∧ (parseMethodDescriptor yX3_init.desc).map (fun d => d.parameters.length) = some 2 := by decide +kernel
def tX3_init : List (Nat × Instr × Nat) := [(0, .aload_n 0, 1), (1, .invokespecial 3, 3), (4, .aload_n 0, 1), (5, .aload_n 1, 1), (6, .putfield 9, 3), (9, .aload_n 0, 1), (10, .aload_n 2, 1), (11, .putfield 15, 3), (14, .return_, 1)]
theorem DX3_init : ∀ q ∈ tX3_init, decode cX3_init q.1 = .ok (q.2.1, q.2.2) := by decide +kernel
abbrev wsX3_received : List Cond := Cond.code yX3_received cX3_received 1 (some .int) :: gW
theorem eX3_received : yX3_received.cls ≠ "java/lang/invoke/MethodHandle" ∧ yX3_received.cls ≠ "java/lang/invoke/VarHandle" ∧ (parseMethodDescriptor yX3_received.desc).map (fun d => d.parameters.length) = some 0 := by decide +kernel
def tX3_received : List (Nat × Instr × Nat) := [(0, .aload_n 0, 1), (1, .getfield 19, 3), (4, .ireturn, 1)]
theorem DX3_received : ∀ q ∈ tX3_received, decode cX3_received q.1 = .ok (q.2.1, q.2.2) := by decide +kernel
abbrev wsX3_forget : List Cond := Cond.code yX3_forget cX3_forget 1 none :: gW
theorem eX3_forget : yX3_forget.cls ≠ "java/lang/invoke/MethodHandle" ∧ yX3_forget.cls ≠ "java/lang/invoke/VarHandle" ∧ (parseMethodDescriptor yX3_forget.desc).map (fun d => d.parameters.length) = some 0 := by decide +kernel
def tX3_forget : List (Nat × Instr × Nat) := [(0, .aload_n 0, 1), (1, .iconst 0, 1), (2, .putfield 19, 3), (5, .return_, 1)]
theorem DX3_forget : ∀ q ∈ tX3_forget, decode cX3_forget q.1 = .ok (q.2.1, q.2.2) := by decide +kernel
abbrev wsX3_takeBegin : List Cond := Cond.code yX3_takeBegin cX3_takeBegin 5 (some .int) :: gW
theorem eX3_takeBegin : yX3_takeBegin.cls ≠ "java/lang/invoke/MethodHandle" ∧ yX3_takeBegin.cls ≠ "java/lang/invoke/VarHandle" ∧ (parseMethodDescriptor yX3_takeBegin.desc).map (fun d => d.parameters.length) = some 0 := by decide +kernel
def tX3_takeBegin : List (Nat × Instr × Nat) := [(0, .aload_n 0, 1), (1, .getfield 9, 3), (4, .invokevirtual 23, 3), (7, .ifCond .eq 6, 3), (10, .bipush 6, 2), (12, .ireturn, 1), (13, .aload_n 0, 1), (14, .getfield 15, 3), (17, .iconst 0, 1), (18, .invokevirtual 29, 3), (21, .iconst 1, 1), (22, .if_icmp .ne 16, 3), (25, .aload_n 0, 1), (26, .getfield 15, 3), (29, .iconst 0, 1), (30, .bipush 25, 2), (32, .invokevirtual 35, 3), (35, .ifCond .ne 5, 3), (38, .iconst 1, 1), (39, .ireturn, 1), (40, .aload_n 0, 1), (41, .getfield 15, 3), (44, .iconst 1, 1), (45, .bipush 8, 2), (47, .invokevirtual 39, 3), (50, .lstore_n 1, 1), (51, .aload_n 0, 1), (52, .getfield 15, 3), (55, .bipush 9, 2), (57, .bipush 8, 2), (59, .invokevirtual 39, 3), (62, .lstore_n 3, 1), (63, .lload_n 1, 1), (64, .lconst 0, 1), (65, .lcmp, 1), (66, .ifCond .ne 16, 3), (69, .aload_n 0, 1), (70, .getfield 9, 3), (73, .invokevirtual 43, 3), (76, .ifCond .le 19, 3), (79, .goto 14, 3), (82, .aload_n 0, 1), (83, .getfield 9, 3), (86, .lload_n 1, 1), (87, .invokevirtual 47, 3), (90, .ifCond .ne 5, 3), (93, .iconst 2, 1), (94, .ireturn, 1), (95, .aload_n 0, 1), (96, .getfield 9, 3), (99, .invokevirtual 51, 3), (102, .ifCond .eq 5, 3), (105, .iconst 3, 1), (106, .ireturn, 1), (107, .aload_n 0, 1), (108, .getfield 9, 3), (111, .lload_n 3, 1), (112, .invokevirtual 54, 3), (115, .ifCond .eq 5, 3), (118, .iconst 4, 1), (119, .ireturn, 1), (120, .aload_n 0, 1), (121, .getfield 9, 3), (124, .invokevirtual 57, 3), (127, .aload_n 0, 1), (128, .bipush 25, 2), (130, .putfield 60, 3), (133, .aload_n 0, 1), (134, .iconst 0, 1), (135, .putfield 19, 3), (138, .aload_n 0, 1), (139, .lload_n 3, 1), (140, .putfield 63, 3), (143, .iconst 0, 1), (144, .ireturn, 1)]
theorem DX3_takeBegin : ∀ q ∈ tX3_takeBegin, decode cX3_takeBegin q.1 = .ok (q.2.1, q.2.2) := by decide +kernel
abbrev wsX3_takeRecords : List Cond := Cond.code yX3_takeRecords cX3_takeRecords 4 (some .int) :: gW
theorem eX3_takeRecords : yX3_takeRecords.cls ≠ "java/lang/invoke/MethodHandle" ∧ yX3_takeRecords.cls ≠ "java/lang/invoke/VarHandle" ∧ (parseMethodDescriptor yX3_takeRecords.desc).map (fun d => d.parameters.length) = some 1 := by decide +kernel
def tX3_takeRecords : List (Nat × Instr × Nat) := [(0, .bipush 7, 2), (2, .istore_n 2, 1), (3, .iconst 0, 1), (4, .istore_n 3, 1), (5, .iload_n 3, 1), (6, .iload_n 1, 1), (7, .if_icmp .ge 27, 3), (10, .iload_n 2, 1), (11, .bipush 7, 2), (13, .if_icmp .ne 21, 3), (16, .aload_n 0, 1), (17, .invokevirtual 67, 3), (20, .istore_n 2, 1), (21, .aload_n 0, 1), (22, .getfield 9, 3), (25, .invokevirtual 70, 3), (28, .iinc 3 1, 3), (31, .goto (-26), 3), (34, .iload_n 2, 1), (35, .iconst 1, 1), (36, .if_icmp .eq 8, 3), (39, .iload_n 2, 1), (40, .iconst 5, 1), (41, .if_icmp .ne 10, 3), (44, .aload_n 0, 1), (45, .getfield 9, 3), (48, .invokevirtual 73, 3), (51, .iload_n 2, 1), (52, .ireturn, 1)]
theorem DX3_takeRecords : ∀ q ∈ tX3_takeRecords, decode cX3_takeRecords q.1 = .ok (q.2.1, q.2.2) := by decide +kernel
abbrev wsX3_takeRecord : List Cond := Cond.code yX3_takeRecord cX3_takeRecord 4 (some .int) :: gW
theorem eX3_takeRecord : yX3_takeRecord.cls ≠ "java/lang/invoke/MethodHandle" ∧ yX3_takeRecord.cls ≠ "java/lang/invoke/VarHandle" ∧ (parseMethodDescriptor yX3_takeRecord.desc).map (fun d => d.parameters.length) = some 0 := by decide +kernel
def tX3_takeRecord : List (Nat × Instr × Nat) := [(0, .aload_n 0, 1), (1, .getfield 15, 3), (4, .aload_n 0, 1), (5, .getfield 60, 3), (8, .invokevirtual 29, 3), (11, .istore_n 1, 1), (12, .iload_n 1, 1), (13, .invokestatic 76, 3), (16, .istore_n 2, 1), (17, .aload_n 0, 1), (18, .getfield 15, 3), (21, .aload_n 0, 1), (22, .getfield 60, 3), (25, .iload_n 2, 1), (26, .invokevirtual 35, 3), (29, .ifCond .ne 5, 3), (32, .iconst 1, 1), (33, .ireturn, 1), (34, .iload_n 1, 1), (35, .iconst 2, 1), (36, .if_icmp .ne 10, 3), (39, .aload_n 0, 1), (40, .invokevirtual 79, 3), (43, .goto 19, 3), (46, .iload_n 1, 1), (47, .iconst 3, 1), (48, .if_icmp .ne 10, 3), (51, .aload_n 0, 1), (52, .invokevirtual 82, 3), (55, .goto 7, 3), (58, .aload_n 0, 1), (59, .invokevirtual 85, 3), (62, .istore_n 3, 1), (63, .iload_n 3, 1), (64, .bipush 7, 2), (66, .if_icmp .eq 7, 3), (69, .iload_n 3, 1), (70, .ifCond .ne 23, 3), (73, .aload_n 0, 1), (74, .dup, 1), (75, .getfield 60, 3), (78, .iload_n 2, 1), (79, .iadd, 1), (80, .putfield 60, 3), (83, .aload_n 0, 1), (84, .dup, 1), (85, .getfield 19, 3), (88, .iconst 1, 1), (89, .iadd, 1), (90, .putfield 19, 3), (93, .iload_n 3, 1), (94, .ireturn, 1)]
theorem DX3_takeRecord : ∀ q ∈ tX3_takeRecord, decode cX3_takeRecord q.1 = .ok (q.2.1, q.2.2) := by decide +kernel
abbrev wsX3_sizeOf : List Cond := Cond.code yX3_sizeOf cX3_sizeOf 1 (some .int) :: gW
theorem eX3_sizeOf : yX3_sizeOf.cls ≠ "java/lang/invoke/MethodHandle" ∧ yX3_sizeOf.cls ≠ "java/lang/invoke/VarHandle" ∧ (parseMethodDescriptor yX3_sizeOf.desc).map (fun d => d.parameters.length) = some 1 := by decide +kernel
def tX3_sizeOf : List (Nat × Instr × Nat) := [(0, .iload_n 0, 1), (1, .tableswitch 36 2 4 #[27, 30, 33], 27), (28, .bipush 19, 2), (30, .ireturn, 1), (31, .bipush 13, 2), (33, .ireturn, 1), (34, .bipush 13, 2), (36, .ireturn, 1), (37, .iconst 0, 1), (38, .ireturn, 1)]
theorem DX3_sizeOf : ∀ q ∈ tX3_sizeOf, decode cX3_sizeOf q.1 = .ok (q.2.1, q.2.2) := by decide +kernel
abbrev wsX3_takeWrite : List Cond := Cond.code yX3_takeWrite cX3_takeWrite 2 (some .int) :: gW
theorem eX3_takeWrite : yX3_takeWrite.cls ≠ "java/lang/invoke/MethodHandle" ∧ yX3_takeWrite.cls ≠ "java/lang/invoke/VarHandle" ∧ (parseMethodDescriptor yX3_takeWrite.desc).map (fun d => d.parameters.length) = some 0 := by decide +kernel
def tX3_takeWrite : List (Nat × Instr × Nat) := [(0, .aload_n 0, 1), (1, .getfield 15, 3), (4, .aload_n 0, 1), (5, .getfield 60, 3), (8, .iconst 1, 1), (9, .iadd, 1), (10, .iconst 2, 1), (11, .invokevirtual 39, 3), (14, .l2i, 1), (15, .istore_n 1, 1), (16, .iload_n 1, 1), (17, .invokestatic 88, 3), (20, .ifCond .ne 5, 3), (23, .iconst 1, 1), (24, .ireturn, 1), (25, .aload_n 0, 1), (26, .getfield 9, 3), (29, .sipush 4801, 3), (32, .iload_n 1, 1), (33, .aload_n 0, 1), (34, .getfield 15, 3), (37, .aload_n 0, 1), (38, .getfield 60, 3), (41, .iconst 3, 1), (42, .iadd, 1), (43, .bipush 8, 2), (45, .invokevirtual 39, 3), (48, .invokevirtual 92, 3), (51, .ifCond .eq 8, 3), (54, .bipush 7, 2), (56, .goto 4, 3), (59, .iconst 5, 1), (60, .ireturn, 1)]
theorem DX3_takeWrite : ∀ q ∈ tX3_takeWrite, decode cX3_takeWrite q.1 = .ok (q.2.1, q.2.2) := by decide +kernel
abbrev wsX3_takeClear : List Cond := Cond.code yX3_takeClear cX3_takeClear 4 (some .int) :: gW
theorem eX3_takeClear : yX3_takeClear.cls ≠ "java/lang/invoke/MethodHandle" ∧ yX3_takeClear.cls ≠ "java/lang/invoke/VarHandle" ∧ (parseMethodDescriptor yX3_takeClear.desc).map (fun d => d.parameters.length) = some 0 := by decide +kernel
def tX3_takeClear : List (Nat × Instr × Nat) := [(0, .aload_n 0, 1), (1, .getfield 15, 3), (4, .aload_n 0, 1), (5, .getfield 60, 3), (8, .iconst 1, 1), (9, .iadd, 1), (10, .iconst 2, 1), (11, .invokevirtual 39, 3), (14, .l2i, 1), (15, .istore_n 1, 1), (16, .aload_n 0, 1), (17, .getfield 15, 3), (20, .aload_n 0, 1), (21, .getfield 60, 3), (24, .iconst 3, 1), (25, .iadd, 1), (26, .iconst 2, 1), (27, .invokevirtual 39, 3), (30, .l2i, 1), (31, .istore_n 2, 1), (32, .iload_n 1, 1), (33, .invokestatic 88, 3), (36, .ifCond .eq 17, 3), (39, .iload_n 2, 1), (40, .iconst 1, 1), (41, .if_icmp .lt 12, 3), (44, .iload_n 1, 1), (45, .iload_n 2, 1), (46, .iadd, 1), (47, .sipush 512, 3), (50, .if_icmp .le 5, 3), (53, .iconst 1, 1), (54, .ireturn, 1), (55, .iconst 0, 1), (56, .istore_n 3, 1), (57, .iload_n 3, 1), (58, .iload_n 2, 1), (59, .if_icmp .ge 27, 3), (62, .aload_n 0, 1), (63, .getfield 9, 3), (66, .sipush 4801, 3), (69, .iload_n 1, 1), (70, .iload_n 3, 1), (71, .iadd, 1), (72, .invokevirtual 96, 3), (75, .ifCond .ne 5, 3), (78, .iconst 5, 1), (79, .ireturn, 1), (80, .iinc 3 1, 3), (83, .goto (-26), 3), (86, .bipush 7, 2), (88, .ireturn, 1)]
theorem DX3_takeClear : ∀ q ∈ tX3_takeClear, decode cX3_takeClear q.1 = .ok (q.2.1, q.2.2) := by decide +kernel
abbrev wsX3_takeEnd : List Cond := Cond.code yX3_takeEnd cX3_takeEnd 1 (some .int) :: gW
theorem eX3_takeEnd : yX3_takeEnd.cls ≠ "java/lang/invoke/MethodHandle" ∧ yX3_takeEnd.cls ≠ "java/lang/invoke/VarHandle" ∧ (parseMethodDescriptor yX3_takeEnd.desc).map (fun d => d.parameters.length) = some 0 := by decide +kernel
def tX3_takeEnd : List (Nat × Instr × Nat) := [(0, .aload_n 0, 1), (1, .getfield 15, 3), (4, .aload_n 0, 1), (5, .getfield 60, 3), (8, .iconst 1, 1), (9, .iadd, 1), (10, .iconst 4, 1), (11, .invokevirtual 39, 3), (14, .lconst 1, 1), (15, .aload_n 0, 1), (16, .getfield 19, 3), (19, .i2l, 1), (20, .ladd, 1), (21, .lcmp, 1), (22, .ifCond .ne 20, 3), (25, .aload_n 0, 1), (26, .getfield 60, 3), (29, .bipush 13, 2), (31, .iadd, 1), (32, .aload_n 0, 1), (33, .getfield 15, 3), (36, .invokevirtual 99, 3), (39, .if_icmp .eq 5, 3), (42, .iconst 1, 1), (43, .ireturn, 1), (44, .aload_n 0, 1), (45, .getfield 9, 3), (48, .invokevirtual 43, 3), (51, .bipush 20, 2), (53, .if_icmp .lt 5, 3), (56, .iconst 5, 1), (57, .ireturn, 1), (58, .aload_n 0, 1), (59, .getfield 9, 3), (62, .aload_n 0, 1), (63, .getfield 63, 3), (66, .invokevirtual 102, 3), (69, .iconst 0, 1), (70, .ireturn, 1)]
theorem DX3_takeEnd : ∀ q ∈ tX3_takeEnd, decode cX3_takeEnd q.1 = .ok (q.2.1, q.2.2) := by decide +kernel
abbrev wsX4_init : List Cond := Cond.code yX4_init cX4_init 2 none :: gW
theorem eX4_init : yX4_init.cls ≠ "java/lang/invoke/MethodHandle" ∧ yX4_init.cls ≠ "java/lang/invoke/VarHandle" ∧ (parseMethodDescriptor yX4_init.desc).map (fun d => d.parameters.length) = some 1 := by decide +kernel
def tX4_init : List (Nat × Instr × Nat) := [(0, .aload_n 0, 1), (1, .invokespecial 3, 3), (4, .aload_n 0, 1), (5, .aload_n 1, 1), (6, .putfield 9, 3), (9, .return_, 1)]
theorem DX4_init : ∀ q ∈ tX4_init, decode cX4_init q.1 = .ok (q.2.1, q.2.2) := by decide +kernel
abbrev wsX4_writes : List Cond := Cond.code yX4_writes cX4_writes 1 (some .int) :: gW
theorem eX4_writes : yX4_writes.cls ≠ "java/lang/invoke/MethodHandle" ∧ yX4_writes.cls ≠ "java/lang/invoke/VarHandle" ∧ (parseMethodDescriptor yX4_writes.desc).map (fun d => d.parameters.length) = some 0 := by decide +kernel
def tX4_writes : List (Nat × Instr × Nat) := [(0, .aload_n 0, 1), (1, .getfield 15, 3), (4, .ireturn, 1)]
theorem DX4_writes : ∀ q ∈ tX4_writes, decode cX4_writes q.1 = .ok (q.2.1, q.2.2) := by decide +kernel
abbrev wsX4_clears : List Cond := Cond.code yX4_clears cX4_clears 1 (some .int) :: gW
theorem eX4_clears : yX4_clears.cls ≠ "java/lang/invoke/MethodHandle" ∧ yX4_clears.cls ≠ "java/lang/invoke/VarHandle" ∧ (parseMethodDescriptor yX4_clears.desc).map (fun d => d.parameters.length) = some 0 := by decide +kernel
def tX4_clears : List (Nat × Instr × Nat) := [(0, .aload_n 0, 1), (1, .getfield 19, 3), (4, .ireturn, 1)]
theorem DX4_clears : ∀ q ∈ tX4_clears, decode cX4_clears q.1 = .ok (q.2.1, q.2.2) := by decide +kernel
abbrev wsX4_seen : List Cond := Cond.code yX4_seen cX4_seen 1 (some .int) :: gW
theorem eX4_seen : yX4_seen.cls ≠ "java/lang/invoke/MethodHandle" ∧ yX4_seen.cls ≠ "java/lang/invoke/VarHandle" ∧ (parseMethodDescriptor yX4_seen.desc).map (fun d => d.parameters.length) = some 0 := by decide +kernel
def tX4_seen : List (Nat × Instr × Nat) := [(0, .aload_n 0, 1), (1, .getfield 22, 3), (4, .ireturn, 1)]
theorem DX4_seen : ∀ q ∈ tX4_seen, decode cX4_seen q.1 = .ok (q.2.1, q.2.2) := by decide +kernel
abbrev wsX4_fillStream : List Cond := Cond.code yX4_fillStream cX4_fillStream 4 none :: gW
theorem eX4_fillStream : yX4_fillStream.cls ≠ "java/lang/invoke/MethodHandle" ∧ yX4_fillStream.cls ≠ "java/lang/invoke/VarHandle" ∧ (parseMethodDescriptor yX4_fillStream.desc).map (fun d => d.parameters.length) = some 3 := by decide +kernel
def tX4_fillStream : List (Nat × Instr × Nat) := [(0, .aload_n 0, 1), (1, .iconst 0, 1), (2, .putfield 15, 3), (5, .aload_n 0, 1), (6, .iconst 0, 1), (7, .putfield 19, 3), (10, .aload_n 0, 1), (11, .iconst 0, 1), (12, .putfield 22, 3), (15, .aload_n 0, 1), (16, .iload_n 2, 1), (17, .iconst (-1), 1), (18, .if_icmp .ne 7, 3), (21, .iconst 0, 1), (22, .goto 8, 3), (25, .aload_n 1, 1), (26, .iload_n 2, 1), (27, .invokevirtual 25, 3), (30, .putfield 31, 3), (33, .aload_n 0, 1), (34, .getfield 9, 3), (37, .iconst 0, 1), (38, .invokevirtual 34, 3), (41, .aload_n 0, 1), (42, .getfield 9, 3), (45, .iload_n 2, 1), (46, .iconst (-1), 1), (47, .if_icmp .ne 7, 3), (50, .lconst 0, 1), (51, .goto 8, 3), (54, .aload_n 1, 1), (55, .iload_n 2, 1), (56, .invokevirtual 40, 3), (59, .aload_n 1, 1), (60, .iload_n 3, 1), (61, .invokevirtual 40, 3), (64, .invokevirtual 44, 3), (67, .aload_n 0, 1), (68, .aload_n 1, 1), (69, .invokevirtual 48, 3), (72, .sipush 4802, 3), (75, .iload_n 3, 1), (76, .iadd, 1), (77, .iconst 3, 1), (78, .iconst 0, 1), (79, .invokestatic 52, 3), (82, .aload_n 0, 1), (83, .getfield 9, 3), (86, .iconst 1, 1), (87, .aload_n 0, 1), (88, .getfield 15, 3), (91, .iadd, 1), (92, .aload_n 0, 1), (93, .getfield 19, 3), (96, .iadd, 1), (97, .invokevirtual 56, 3), (100, .return_, 1)]
theorem DX4_fillStream : ∀ q ∈ tX4_fillStream, decode cX4_fillStream q.1 = .ok (q.2.1, q.2.2) := by decide +kernel
abbrev wsX4_goOver : List Cond := Cond.code yX4_goOver cX4_goOver 7 none :: gW
theorem eX4_goOver : yX4_goOver.cls ≠ "java/lang/invoke/MethodHandle" ∧ yX4_goOver.cls ≠ "java/lang/invoke/VarHandle" ∧ (parseMethodDescriptor yX4_goOver.desc).map (fun d => d.parameters.length) = some 5 := by decide +kernel
def tX4_goOver : List (Nat × Instr × Nat) := [(0, .iload_n 3, 1), (1, .ifCond .lt 15, 3), (4, .aload_n 1, 1), (5, .iload_n 2, 1), (6, .invokevirtual 59, 3), (9, .aload_n 0, 1), (10, .getfield 31, 3), (13, .if_icmp .gt 4, 3), (16, .return_, 1), (17, .aload_n 1, 1), (18, .iload_n 2, 1), (19, .invokevirtual 64, 3), (22, .istore 5, 2), (24, .iload 5, 2), (26, .iconst (-1), 1), (27, .if_icmp .ne 28, 3), (30, .aload_n 0, 1), (31, .dup, 1), (32, .getfield 19, 3), (35, .iconst 1, 1), (36, .iadd, 1), (37, .putfield 19, 3), (40, .aload_n 0, 1), (41, .getfield 9, 3), (44, .iload 4, 2), (46, .iconst 1, 1), (47, .iconst 3, 1), (48, .iload_n 3, 1), (49, .imul, 1), (50, .ishl, 1), (51, .invokevirtual 67, 3), (54, .return_, 1), (55, .aload_n 0, 1), (56, .dup, 1), (57, .getfield 22, 3), (60, .iconst 1, 1), (61, .iadd, 1), (62, .putfield 22, 3), (65, .iload_n 3, 1), (66, .ifCond .ne 29, 3), (69, .aload_n 0, 1), (70, .dup, 1), (71, .getfield 15, 3), (74, .iconst 1, 1), (75, .iadd, 1), (76, .putfield 15, 3), (79, .aload_n 0, 1), (80, .getfield 9, 3), (83, .iload 4, 2), (85, .aload_n 1, 1), (86, .iload 5, 2), (88, .invokevirtual 71, 3), (91, .invokevirtual 74, 3), (94, .return_, 1), (95, .iconst 0, 1), (96, .istore 6, 2), (98, .iload 6, 2), (100, .bipush 8, 2), (102, .if_icmp .ge 36, 3), (105, .aload_n 0, 1), (106, .aload_n 1, 1), (107, .iload 5, 2), (109, .bipush 8, 2), (111, .imul, 1), (112, .iload 6, 2), (114, .iadd, 1), (115, .iload_n 3, 1), (116, .iconst 1, 1), (117, .isub, 1), (118, .iload 4, 2), (120, .iload 6, 2), (122, .iconst 3, 1), (123, .iload_n 3, 1), (124, .iconst 1, 1), (125, .isub, 1), (126, .imul, 1), (127, .ishl, 1), (128, .iadd, 1), (129, .invokestatic 52, 3), (132, .iinc 6 1, 3), (135, .goto (-37), 3), (138, .return_, 1)]
theorem DX4_goOver : ∀ q ∈ tX4_goOver, decode cX4_goOver q.1 = .ok (q.2.1, q.2.2) := by decide +kernel
abbrev wsX5_init : List Cond := Cond.code yX5_init cX5_init 1 none :: gW
theorem eX5_init : yX5_init.cls ≠ "java/lang/invoke/MethodHandle" ∧ yX5_init.cls ≠ "java/lang/invoke/VarHandle" ∧ (parseMethodDescriptor yX5_init.desc).map (fun d => d.parameters.length) = some 0 := by decide +kernel
def tX5_init : List (Nat × Instr × Nat) := [(0, .aload_n 0, 1), (1, .invokespecial 3, 3), (4, .aload_n 0, 1), (5, .sipush 9766, 3), (8, .newarray .byte, 2), (10, .putfield 9, 3), (13, .return_, 1)]
theorem DX5_init : ∀ q ∈ tX5_init, decode cX5_init q.1 = .ok (q.2.1, q.2.2) := by decide +kernel
abbrev wsX5_length : List Cond := Cond.code yX5_length cX5_length 1 (some .int) :: gW
theorem eX5_length : yX5_length.cls ≠ "java/lang/invoke/MethodHandle" ∧ yX5_length.cls ≠ "java/lang/invoke/VarHandle" ∧ (parseMethodDescriptor yX5_length.desc).map (fun d => d.parameters.length) = some 0 := by decide +kernel
def tX5_length : List (Nat × Instr × Nat) := [(0, .aload_n 0, 1), (1, .getfield 15, 3), (4, .ireturn, 1)]
theorem DX5_length : ∀ q ∈ tX5_length, decode cX5_length q.1 = .ok (q.2.1, q.2.2) := by decide +kernel
abbrev wsX5_at : List Cond := Cond.code yX5_at cX5_at 2 (some .int) :: gW
theorem eX5_at : yX5_at.cls ≠ "java/lang/invoke/MethodHandle" ∧ yX5_at.cls ≠ "java/lang/invoke/VarHandle" ∧ (parseMethodDescriptor yX5_at.desc).map (fun d => d.parameters.length) = some 1 := by decide +kernel
def tX5_at : List (Nat × Instr × Nat) := [(0, .iload_n 1, 1), (1, .ifCond .lt 33, 3), (4, .iload_n 1, 1), (5, .aload_n 0, 1), (6, .getfield 15, 3), (9, .if_icmp .ge 25, 3), (12, .iload_n 1, 1), (13, .aload_n 0, 1), (14, .getfield 9, 3), (17, .arraylength, 1), (18, .if_icmp .ge 16, 3), (21, .aload_n 0, 1), (22, .getfield 9, 3), (25, .iload_n 1, 1), (26, .baload, 1), (27, .sipush 255, 3), (30, .iand, 1), (31, .goto 4, 3), (34, .iconst (-1), 1), (35, .ireturn, 1)]
theorem DX5_at : ∀ q ∈ tX5_at, decode cX5_at q.1 = .ok (q.2.1, q.2.2) := by decide +kernel
abbrev wsX5_put : List Cond := Cond.code yX5_put cX5_put 3 none :: gW
theorem eX5_put : yX5_put.cls ≠ "java/lang/invoke/MethodHandle" ∧ yX5_put.cls ≠ "java/lang/invoke/VarHandle" ∧ (parseMethodDescriptor yX5_put.desc).map (fun d => d.parameters.length) = some 2 := by decide +kernel
def tX5_put : List (Nat × Instr × Nat) := [(0, .iload_n 1, 1), (1, .ifCond .lt 20, 3), (4, .iload_n 1, 1), (5, .aload_n 0, 1), (6, .getfield 9, 3), (9, .arraylength, 1), (10, .if_icmp .ge 11, 3), (13, .aload_n 0, 1), (14, .getfield 9, 3), (17, .iload_n 1, 1), (18, .iload_n 2, 1), (19, .i2b, 1), (20, .bastore, 1), (21, .return_, 1)]
theorem DX5_put : ∀ q ∈ tX5_put, decode cX5_put q.1 = .ok (q.2.1, q.2.2) := by decide +kernel
abbrev wsX5_shorten : List Cond := Cond.code yX5_shorten cX5_shorten 2 none :: gW
theorem eX5_shorten : yX5_shorten.cls ≠ "java/lang/invoke/MethodHandle" ∧ yX5_shorten.cls ≠ "java/lang/invoke/VarHandle" ∧ (parseMethodDescriptor yX5_shorten.desc).map (fun d => d.parameters.length) = some 1 := by decide +kernel
def tX5_shorten : List (Nat × Instr × Nat) := [(0, .aload_n 0, 1), (1, .iload_n 1, 1), (2, .putfield 15, 3), (5, .return_, 1)]
theorem DX5_shorten : ∀ q ∈ tX5_shorten, decode cX5_shorten q.1 = .ok (q.2.1, q.2.2) := by decide +kernel
abbrev wsX5_addBegin : List Cond := Cond.code yX5_addBegin cX5_addBegin 6 none :: gW
theorem eX5_addBegin : yX5_addBegin.cls ≠ "java/lang/invoke/MethodHandle" ∧ yX5_addBegin.cls ≠ "java/lang/invoke/VarHandle" ∧ (parseMethodDescriptor yX5_addBegin.desc).map (fun d => d.parameters.length) = some 2 := by decide +kernel
def tX5_addBegin : List (Nat × Instr × Nat) := [(0, .aload_n 0, 1), (1, .getfield 15, 3), (4, .istore 5, 2), (6, .aload_n 0, 1), (7, .lconst 1, 1), (8, .iconst 1, 1), (9, .invokevirtual 19, 3), (12, .aload_n 0, 1), (13, .lload_n 1, 1), (14, .bipush 8, 2), (16, .invokevirtual 19, 3), (19, .aload_n 0, 1), (20, .lload_n 3, 1), (21, .bipush 8, 2), (23, .invokevirtual 19, 3), (26, .aload_n 0, 1), (27, .aload_n 0, 1), (28, .iload 5, 2), (30, .aload_n 0, 1), (31, .getfield 15, 3), (34, .invokevirtual 23, 3), (37, .bipush 8, 2), (39, .invokevirtual 19, 3), (42, .return_, 1)]
theorem DX5_addBegin : ∀ q ∈ tX5_addBegin, decode cX5_addBegin q.1 = .ok (q.2.1, q.2.2) := by decide +kernel
abbrev wsX5_addWrite : List Cond := Cond.code yX5_addWrite cX5_addWrite 5 none :: gW
theorem eX5_addWrite : yX5_addWrite.cls ≠ "java/lang/invoke/MethodHandle" ∧ yX5_addWrite.cls ≠ "java/lang/invoke/VarHandle" ∧ (parseMethodDescriptor yX5_addWrite.desc).map (fun d => d.parameters.length) = some 2 := by decide +kernel
def tX5_addWrite : List (Nat × Instr × Nat) := [(0, .aload_n 0, 1), (1, .getfield 15, 3), (4, .istore 4, 2), (6, .aload_n 0, 1), (7, .ldc2_w 27, 3), (10, .iconst 1, 1), (11, .invokevirtual 19, 3), (14, .aload_n 0, 1), (15, .iload_n 1, 1), (16, .i2l, 1), (17, .iconst 2, 1), (18, .invokevirtual 19, 3), (21, .aload_n 0, 1), (22, .lload_n 2, 1), (23, .bipush 8, 2), (25, .invokevirtual 19, 3), (28, .aload_n 0, 1), (29, .aload_n 0, 1), (30, .iload 4, 2), (32, .aload_n 0, 1), (33, .getfield 15, 3), (36, .invokevirtual 23, 3), (39, .bipush 8, 2), (41, .invokevirtual 19, 3), (44, .return_, 1)]
theorem DX5_addWrite : ∀ q ∈ tX5_addWrite, decode cX5_addWrite q.1 = .ok (q.2.1, q.2.2) := by decide +kernel
abbrev wsX5_addClear : List Cond := Cond.code yX5_addClear cX5_addClear 4 none :: gW
theorem eX5_addClear : yX5_addClear.cls ≠ "java/lang/invoke/MethodHandle" ∧ yX5_addClear.cls ≠ "java/lang/invoke/VarHandle" ∧ (parseMethodDescriptor yX5_addClear.desc).map (fun d => d.parameters.length) = some 2 := by decide +kernel
def tX5_addClear : List (Nat × Instr × Nat) := [(0, .aload_n 0, 1), (1, .getfield 15, 3), (4, .istore_n 3, 1), (5, .aload_n 0, 1), (6, .ldc2_w 29, 3), (9, .iconst 1, 1), (10, .invokevirtual 19, 3), (13, .aload_n 0, 1), (14, .iload_n 1, 1), (15, .i2l, 1), (16, .iconst 2, 1), (17, .invokevirtual 19, 3), (20, .aload_n 0, 1), (21, .iload_n 2, 1), (22, .i2l, 1), (23, .iconst 2, 1), (24, .invokevirtual 19, 3), (27, .aload_n 0, 1), (28, .aload_n 0, 1), (29, .iload_n 3, 1), (30, .aload_n 0, 1), (31, .getfield 15, 3), (34, .invokevirtual 23, 3), (37, .bipush 8, 2), (39, .invokevirtual 19, 3), (42, .return_, 1)]
theorem DX5_addClear : ∀ q ∈ tX5_addClear, decode cX5_addClear q.1 = .ok (q.2.1, q.2.2) := by decide +kernel
abbrev wsX5_addEnd : List Cond := Cond.code yX5_addEnd cX5_addEnd 3 none :: gW
theorem eX5_addEnd : yX5_addEnd.cls ≠ "java/lang/invoke/MethodHandle" ∧ yX5_addEnd.cls ≠ "java/lang/invoke/VarHandle" ∧ (parseMethodDescriptor yX5_addEnd.desc).map (fun d => d.parameters.length) = some 1 := by decide +kernel
def tX5_addEnd : List (Nat × Instr × Nat) := [(0, .aload_n 0, 1), (1, .getfield 15, 3), (4, .istore_n 2, 1), (5, .aload_n 0, 1), (6, .ldc2_w 31, 3), (9, .iconst 1, 1), (10, .invokevirtual 19, 3), (13, .aload_n 0, 1), (14, .iload_n 1, 1), (15, .i2l, 1), (16, .iconst 4, 1), (17, .invokevirtual 19, 3), (20, .aload_n 0, 1), (21, .aload_n 0, 1), (22, .iload_n 2, 1), (23, .aload_n 0, 1), (24, .getfield 15, 3), (27, .invokevirtual 23, 3), (30, .bipush 8, 2), (32, .invokevirtual 19, 3), (35, .return_, 1)]
theorem DX5_addEnd : ∀ q ∈ tX5_addEnd, decode cX5_addEnd q.1 = .ok (q.2.1, q.2.2) := by decide +kernel
abbrev wsX5_addNumber : List Cond := Cond.code yX5_addNumber cX5_addNumber 5 none :: gW
theorem eX5_addNumber : yX5_addNumber.cls ≠ "java/lang/invoke/MethodHandle" ∧ yX5_addNumber.cls ≠ "java/lang/invoke/VarHandle" ∧ (parseMethodDescriptor yX5_addNumber.desc).map (fun d => d.parameters.length) = some 2 := by decide +kernel
def tX5_addNumber : List (Nat × Instr × Nat) := [(0, .iload_n 3, 1), (1, .iconst 1, 1), (2, .isub, 1), (3, .istore 4, 2), (5, .iload 4, 2), (7, .ifCond .lt 47, 3), (10, .aload_n 0, 1), (11, .getfield 15, 3), (14, .aload_n 0, 1), (15, .getfield 9, 3), (18, .arraylength, 1), (19, .if_icmp .ge 29, 3), (22, .aload_n 0, 1), (23, .aload_n 0, 1), (24, .getfield 15, 3), (27, .lload_n 1, 1), (28, .bipush 8, 2), (30, .iload 4, 2), (32, .imul, 1), (33, .lushr, 1), (34, .l2i, 1), (35, .invokevirtual 33, 3), (38, .aload_n 0, 1), (39, .dup, 1), (40, .getfield 15, 3), (43, .iconst 1, 1), (44, .iadd, 1), (45, .putfield 15, 3), (48, .iinc 4 (-1), 3), (51, .goto (-46), 3), (54, .return_, 1)]
theorem DX5_addNumber : ∀ q ∈ tX5_addNumber, decode cX5_addNumber q.1 = .ok (q.2.1, q.2.2) := by decide +kernel
abbrev wsX5_numberAt : List Cond := Cond.code yX5_numberAt cX5_numberAt 6 (some .long) :: gW
theorem eX5_numberAt : yX5_numberAt.cls ≠ "java/lang/invoke/MethodHandle" ∧ yX5_numberAt.cls ≠ "java/lang/invoke/VarHandle" ∧ (parseMethodDescriptor yX5_numberAt.desc).map (fun d => d.parameters.length) = some 2 := by decide +kernel
def tX5_numberAt : List (Nat × Instr × Nat) := [(0, .lconst 0, 1), (1, .lstore_n 3, 1), (2, .iconst 0, 1), (3, .istore 5, 2), (5, .iload 5, 2), (7, .iload_n 2, 1), (8, .if_icmp .ge 28, 3), (11, .lload_n 3, 1), (12, .bipush 8, 2), (14, .lshl, 1), (15, .aload_n 0, 1), (16, .iload_n 1, 1), (17, .iload 5, 2), (19, .iadd, 1), (20, .invokevirtual 37, 3), (23, .sipush 255, 3), (26, .iand, 1), (27, .i2l, 1), (28, .lor, 1), (29, .lstore_n 3, 1), (30, .iinc 5 1, 3), (33, .goto (-28), 3), (36, .lload_n 3, 1), (37, .lreturn, 1)]
theorem DX5_numberAt : ∀ q ∈ tX5_numberAt, decode cX5_numberAt q.1 = .ok (q.2.1, q.2.2) := by decide +kernel
abbrev wsX5_isWhole : List Cond := Cond.code yX5_isWhole cX5_isWhole 4 (some .boolean) :: gW
theorem eX5_isWhole : yX5_isWhole.cls ≠ "java/lang/invoke/MethodHandle" ∧ yX5_isWhole.cls ≠ "java/lang/invoke/VarHandle" ∧ (parseMethodDescriptor yX5_isWhole.desc).map (fun d => d.parameters.length) = some 2 := by decide +kernel
def tX5_isWhole : List (Nat × Instr × Nat) := [(0, .iload_n 2, 1), (1, .bipush 8, 2), (3, .if_icmp .lt 13, 3), (6, .iload_n 1, 1), (7, .iload_n 2, 1), (8, .iadd, 1), (9, .aload_n 0, 1), (10, .getfield 15, 3), (13, .if_icmp .le 5, 3), (16, .iconst 0, 1), (17, .ireturn, 1), (18, .iload_n 1, 1), (19, .iload_n 2, 1), (20, .iadd, 1), (21, .bipush 8, 2), (23, .isub, 1), (24, .istore_n 3, 1), (25, .aload_n 0, 1), (26, .iload_n 1, 1), (27, .iload_n 3, 1), (28, .invokevirtual 23, 3), (31, .aload_n 0, 1), (32, .iload_n 3, 1), (33, .bipush 8, 2), (35, .invokevirtual 41, 3), (38, .lcmp, 1), (39, .ifCond .ne 7, 3), (42, .iconst 1, 1), (43, .goto 4, 3), (46, .iconst 0, 1), (47, .ireturn, 1)]
theorem DX5_isWhole : ∀ q ∈ tX5_isWhole, decode cX5_isWhole q.1 = .ok (q.2.1, q.2.2) := by decide +kernel
abbrev wsX5_sumOf : List Cond := Cond.code yX5_sumOf cX5_sumOf 6 (some .long) :: gW
theorem eX5_sumOf : yX5_sumOf.cls ≠ "java/lang/invoke/MethodHandle" ∧ yX5_sumOf.cls ≠ "java/lang/invoke/VarHandle" ∧ (parseMethodDescriptor yX5_sumOf.desc).map (fun d => d.parameters.length) = some 2 := by decide +kernel
def tX5_sumOf : List (Nat × Instr × Nat) := [(0, .iconst 1, 1), (1, .istore_n 3, 1), (2, .iconst 0, 1), (3, .istore 4, 2), (5, .iload_n 1, 1), (6, .istore 5, 2), (8, .iload 5, 2), (10, .iload_n 2, 1), (11, .if_icmp .ge 24, 3), (14, .iload_n 3, 1), (15, .aload_n 0, 1), (16, .iload 5, 2), (18, .invokevirtual 37, 3), (21, .iadd, 1), (22, .istore_n 3, 1), (23, .iload 4, 2), (25, .iload_n 3, 1), (26, .iadd, 1), (27, .istore 4, 2), (29, .iinc 5 1, 3), (32, .goto (-24), 3), (35, .iload 4, 2), (37, .i2l, 1), (38, .bipush 32, 2), (40, .lshl, 1), (41, .iload_n 3, 1), (42, .i2l, 1), (43, .ldc2_w 44, 3), (46, .land, 1), (47, .lor, 1), (48, .lreturn, 1)]
theorem DX5_sumOf : ∀ q ∈ tX5_sumOf, decode cX5_sumOf q.1 = .ok (q.2.1, q.2.2) := by decide +kernel
abbrev wsX6_init : List Cond := Cond.code yX6_init cX6_init 1 none :: gW
theorem eX6_init : yX6_init.cls ≠ "java/lang/invoke/MethodHandle" ∧ yX6_init.cls ≠ "java/lang/invoke/VarHandle" ∧ (parseMethodDescriptor yX6_init.desc).map (fun d => d.parameters.length) = some 0 := by decide +kernel
def tX6_init : List (Nat × Instr × Nat) := [(0, .aload_n 0, 1), (1, .invokespecial 3, 3), (4, .aload_n 0, 1), (5, .new 9, 3), (8, .dup, 1), (9, .invokespecial 11, 3), (12, .putfield 12, 3), (15, .aload_n 0, 1), (16, .new 18, 3), (19, .dup, 1), (20, .bipush 20, 2), (22, .invokespecial 20, 3), (25, .putfield 23, 3), (28, .aload_n 0, 1), (29, .new 27, 3), (32, .dup, 1), (33, .bipush 20, 2), (35, .invokespecial 29, 3), (38, .putfield 30, 3), (41, .aload_n 0, 1), (42, .bipush 100, 2), (44, .invokevirtual 34, 3), (47, .return_, 1)]
theorem DX6_init : ∀ q ∈ tX6_init, decode cX6_init q.1 = .ok (q.2.1, q.2.2) := by decide +kernel
abbrev wsX6_startAnew : List Cond := Cond.code yX6_startAnew cX6_startAnew 2 none :: gW
theorem eX6_startAnew : yX6_startAnew.cls ≠ "java/lang/invoke/MethodHandle" ∧ yX6_startAnew.cls ≠ "java/lang/invoke/VarHandle" ∧ (parseMethodDescriptor yX6_startAnew.desc).map (fun d => d.parameters.length) = some 1 := by decide +kernel
def tX6_startAnew : List (Nat × Instr × Nat) := [(0, .aload_n 0, 1), (1, .getfield 12, 3), (4, .iload_n 1, 1), (5, .invokevirtual 37, 3), (8, .aload_n 0, 1), (9, .iconst 1, 1), (10, .putfield 38, 3), (13, .aload_n 0, 1), (14, .iconst 0, 1), (15, .putfield 42, 3), (18, .aload_n 0, 1), (19, .iconst 0, 1), (20, .putfield 45, 3), (23, .return_, 1)]
theorem DX6_startAnew : ∀ q ∈ tX6_startAnew, decode cX6_startAnew q.1 = .ok (q.2.1, q.2.2) := by decide +kernel
abbrev wsX6_blocks : List Cond := Cond.code yX6_blocks cX6_blocks 1 (some (.object "TwinVolumes$Blocks")) :: gW
theorem eX6_blocks : yX6_blocks.cls ≠ "java/lang/invoke/MethodHandle" ∧ yX6_blocks.cls ≠ "java/lang/invoke/VarHandle" ∧ (parseMethodDescriptor yX6_blocks.desc).map (fun d => d.parameters.length) = some 0 := by decide +kernel
def tX6_blocks : List (Nat × Instr × Nat) := [(0, .aload_n 0, 1), (1, .getfield 12, 3), (4, .areturn, 1)]
theorem DX6_blocks : ∀ q ∈ tX6_blocks, decode cX6_blocks q.1 = .ok (q.2.1, q.2.2) := by decide +kernel
abbrev wsX6_generation : List Cond := Cond.code yX6_generation cX6_generation 1 (some .int) :: gW
theorem eX6_generation : yX6_generation.cls ≠ "java/lang/invoke/MethodHandle" ∧ yX6_generation.cls ≠ "java/lang/invoke/VarHandle" ∧ (parseMethodDescriptor yX6_generation.desc).map (fun d => d.parameters.length) = some 0 := by decide +kernel
def tX6_generation : List (Nat × Instr × Nat) := [(0, .aload_n 0, 1), (1, .getfield 38, 3), (4, .ireturn, 1)]
theorem DX6_generation : ∀ q ∈ tX6_generation, decode cX6_generation q.1 = .ok (q.2.1, q.2.2) := by decide +kernel
abbrev wsX6_snapshots : List Cond := Cond.code yX6_snapshots cX6_snapshots 1 (some .int) :: gW
theorem eX6_snapshots : yX6_snapshots.cls ≠ "java/lang/invoke/MethodHandle" ∧ yX6_snapshots.cls ≠ "java/lang/invoke/VarHandle" ∧ (parseMethodDescriptor yX6_snapshots.desc).map (fun d => d.parameters.length) = some 0 := by decide +kernel
def tX6_snapshots : List (Nat × Instr × Nat) := [(0, .aload_n 0, 1), (1, .getfield 42, 3), (4, .ireturn, 1)]
theorem DX6_snapshots : ∀ q ∈ tX6_snapshots, decode cX6_snapshots q.1 = .ok (q.2.1, q.2.2) := by decide +kernel
abbrev wsX6_isBusy : List Cond := Cond.code yX6_isBusy cX6_isBusy 1 (some .boolean) :: gW
theorem eX6_isBusy : yX6_isBusy.cls ≠ "java/lang/invoke/MethodHandle" ∧ yX6_isBusy.cls ≠ "java/lang/invoke/VarHandle" ∧ (parseMethodDescriptor yX6_isBusy.desc).map (fun d => d.parameters.length) = some 0 := by decide +kernel
def tX6_isBusy : List (Nat × Instr × Nat) := [(0, .aload_n 0, 1), (1, .getfield 45, 3), (4, .ireturn, 1)]
theorem DX6_isBusy : ∀ q ∈ tX6_isBusy, decode cX6_isBusy q.1 = .ok (q.2.1, q.2.2) := by decide +kernel
abbrev wsX6_hasSnapshot : List Cond := Cond.code yX6_hasSnapshot cX6_hasSnapshot 2 (some .boolean) :: gW
theorem eX6_hasSnapshot : yX6_hasSnapshot.cls ≠ "java/lang/invoke/MethodHandle" ∧ yX6_hasSnapshot.cls ≠ "java/lang/invoke/VarHandle" ∧ (parseMethodDescriptor yX6_hasSnapshot.desc).map (fun d => d.parameters.length) = some 1 := by decide +kernel
def tX6_hasSnapshot : List (Nat × Instr × Nat) := [(0, .iload_n 1, 1), (1, .ifCond .lt 15, 3), (4, .iload_n 1, 1), (5, .aload_n 0, 1), (6, .getfield 42, 3), (9, .if_icmp .ge 7, 3), (12, .iconst 1, 1), (13, .goto 4, 3), (16, .iconst 0, 1), (17, .ireturn, 1)]
theorem DX6_hasSnapshot : ∀ q ∈ tX6_hasSnapshot, decode cX6_hasSnapshot q.1 = .ok (q.2.1, q.2.2) := by decide +kernel
abbrev wsX6_markOf : List Cond := Cond.code yX6_markOf cX6_markOf 2 (some .long) :: gW
theorem eX6_markOf : yX6_markOf.cls ≠ "java/lang/invoke/MethodHandle" ∧ yX6_markOf.cls ≠ "java/lang/invoke/VarHandle" ∧ (parseMethodDescriptor yX6_markOf.desc).map (fun d => d.parameters.length) = some 1 := by decide +kernel
def tX6_markOf : List (Nat × Instr × Nat) := [(0, .aload_n 0, 1), (1, .getfield 23, 3), (4, .iload_n 1, 1), (5, .invokevirtual 49, 3), (8, .lreturn, 1)]
theorem DX6_markOf : ∀ q ∈ tX6_markOf, decode cX6_markOf q.1 = .ok (q.2.1, q.2.2) := by decide +kernel
abbrev wsX6_generationOf : List Cond := Cond.code yX6_generationOf cX6_generationOf 2 (some .int) :: gW
theorem eX6_generationOf : yX6_generationOf.cls ≠ "java/lang/invoke/MethodHandle" ∧ yX6_generationOf.cls ≠ "java/lang/invoke/VarHandle" ∧ (parseMethodDescriptor yX6_generationOf.desc).map (fun d => d.parameters.length) = some 1 := by decide +kernel
def tX6_generationOf : List (Nat × Instr × Nat) := [(0, .aload_n 0, 1), (1, .getfield 30, 3), (4, .iload_n 1, 1), (5, .invokevirtual 53, 3), (8, .ireturn, 1)]
theorem DX6_generationOf : ∀ q ∈ tX6_generationOf, decode cX6_generationOf q.1 = .ok (q.2.1, q.2.2) := by decide +kernel
abbrev wsX6_settle : List Cond := Cond.code yX6_settle cX6_settle 1 none :: gW
theorem eX6_settle : yX6_settle.cls ≠ "java/lang/invoke/MethodHandle" ∧ yX6_settle.cls ≠ "java/lang/invoke/VarHandle" ∧ (parseMethodDescriptor yX6_settle.desc).map (fun d => d.parameters.length) = some 0 := by decide +kernel
def tX6_settle : List (Nat × Instr × Nat) := [(0, .aload_n 0, 1), (1, .getfield 12, 3), (4, .invokevirtual 56, 3), (7, .return_, 1)]
theorem DX6_settle : ∀ q ∈ tX6_settle, decode cX6_settle q.1 = .ok (q.2.1, q.2.2) := by decide +kernel
abbrev wsX6_readPlace : List Cond := Cond.code yX6_readPlace cX6_readPlace 4 (some .long) :: gW
theorem eX6_readPlace : yX6_readPlace.cls ≠ "java/lang/invoke/MethodHandle" ∧ yX6_readPlace.cls ≠ "java/lang/invoke/VarHandle" ∧ (parseMethodDescriptor yX6_readPlace.desc).map (fun d => d.parameters.length) = some 2 := by decide +kernel
def tX6_readPlace : List (Nat × Instr × Nat) := [(0, .aload_n 0, 1), (1, .getfield 12, 3), (4, .aload_n 0, 1), (5, .iload_n 1, 1), (6, .iload_n 2, 1), (7, .iconst 0, 1), (8, .invokevirtual 59, 3), (11, .invokevirtual 63, 3), (14, .istore_n 3, 1), (15, .iload_n 3, 1), (16, .iconst (-1), 1), (17, .if_icmp .ne 7, 3), (20, .lconst 0, 1), (21, .goto 11, 3), (24, .aload_n 0, 1), (25, .getfield 12, 3), (28, .iload_n 3, 1), (29, .invokevirtual 66, 3), (32, .lreturn, 1)]
theorem DX6_readPlace : ∀ q ∈ tX6_readPlace, decode cX6_readPlace q.1 = .ok (q.2.1, q.2.2) := by decide +kernel
abbrev wsX6_writePlace : List Cond := Cond.code yX6_writePlace cX6_writePlace 7 (some .boolean) :: gW
theorem eX6_writePlace : yX6_writePlace.cls ≠ "java/lang/invoke/MethodHandle" ∧ yX6_writePlace.cls ≠ "java/lang/invoke/VarHandle" ∧ (parseMethodDescriptor yX6_writePlace.desc).map (fun d => d.parameters.length) = some 3 := by decide +kernel
def tX6_writePlace : List (Nat × Instr × Nat) := [(0, .aload_n 0, 1), (1, .iload_n 1, 1), (2, .iload_n 2, 1), (3, .iconst 0, 1), (4, .invokevirtual 69, 3), (7, .aload_n 0, 1), (8, .getfield 12, 3), (11, .invokevirtual 72, 3), (14, .if_icmp .le 5, 3), (17, .iconst 0, 1), (18, .ireturn, 1), (19, .iload_n 1, 1), (20, .istore 5, 2), (22, .iconst 3, 1), (23, .istore 6, 2), (25, .iload 6, 2), (27, .ifCond .le 43, 3), (30, .aload_n 0, 1), (31, .getfield 12, 3), (34, .iload 5, 2), (36, .iload 6, 2), (38, .aload_n 0, 1), (39, .getfield 38, 3), (42, .invokevirtual 76, 3), (45, .aload_n 0, 1), (46, .getfield 12, 3), (49, .aload_n 0, 1), (50, .getfield 12, 3), (53, .iload 5, 2), (55, .invokevirtual 63, 3), (58, .iload_n 2, 1), (59, .invokevirtual 80, 3), (62, .istore 5, 2), (64, .iinc 6 (-1), 3), (67, .goto (-42), 3), (70, .aload_n 0, 1), (71, .getfield 12, 3), (74, .iload 5, 2), (76, .iconst 0, 1), (77, .aload_n 0, 1), (78, .getfield 38, 3), (81, .invokevirtual 76, 3), (84, .aload_n 0, 1), (85, .getfield 12, 3), (88, .aload_n 0, 1), (89, .getfield 12, 3), (92, .iload 5, 2), (94, .invokevirtual 63, 3), (97, .lload_n 3, 1), (98, .invokevirtual 84, 3), (101, .iconst 1, 1), (102, .ireturn, 1)]
theorem DX6_writePlace : ∀ q ∈ tX6_writePlace, decode cX6_writePlace q.1 = .ok (q.2.1, q.2.2) := by decide +kernel
abbrev wsX6_clearPlace : List Cond := Cond.code yX6_clearPlace cX6_clearPlace 5 (some .boolean) :: gW
theorem eX6_clearPlace : yX6_clearPlace.cls ≠ "java/lang/invoke/MethodHandle" ∧ yX6_clearPlace.cls ≠ "java/lang/invoke/VarHandle" ∧ (parseMethodDescriptor yX6_clearPlace.desc).map (fun d => d.parameters.length) = some 2 := by decide +kernel
def tX6_clearPlace : List (Nat × Instr × Nat) := [(0, .aload_n 0, 1), (1, .getfield 12, 3), (4, .aload_n 0, 1), (5, .iload_n 1, 1), (6, .iload_n 2, 1), (7, .iconst 0, 1), (8, .invokevirtual 59, 3), (11, .invokevirtual 63, 3), (14, .iconst (-1), 1), (15, .if_icmp .ne 5, 3), (18, .iconst 1, 1), (19, .ireturn, 1), (20, .aload_n 0, 1), (21, .iload_n 1, 1), (22, .iload_n 2, 1), (23, .iconst 1, 1), (24, .invokevirtual 69, 3), (27, .aload_n 0, 1), (28, .getfield 12, 3), (31, .invokevirtual 72, 3), (34, .if_icmp .le 5, 3), (37, .iconst 0, 1), (38, .ireturn, 1), (39, .iload_n 1, 1), (40, .istore_n 3, 1), (41, .iconst 3, 1), (42, .istore 4, 2), (44, .iload 4, 2), (46, .ifCond .le 40, 3), (49, .aload_n 0, 1), (50, .getfield 12, 3), (53, .iload_n 3, 1), (54, .iload 4, 2), (56, .aload_n 0, 1), (57, .getfield 38, 3), (60, .invokevirtual 76, 3), (63, .aload_n 0, 1), (64, .getfield 12, 3), (67, .aload_n 0, 1), (68, .getfield 12, 3), (71, .iload_n 3, 1), (72, .invokevirtual 63, 3), (75, .iload_n 2, 1), (76, .invokevirtual 80, 3), (79, .istore_n 3, 1), (80, .iinc 4 (-1), 3), (83, .goto (-39), 3), (86, .aload_n 0, 1), (87, .getfield 12, 3), (90, .iload_n 3, 1), (91, .iconst (-1), 1), (92, .aload_n 0, 1), (93, .getfield 38, 3), (96, .invokevirtual 88, 3), (99, .iconst 1, 1), (100, .istore 4, 2), (102, .iload 4, 2), (104, .iconst 3, 1), (105, .if_icmp .gt 21, 3), (108, .aload_n 0, 1), (109, .aload_n 0, 1), (110, .iload_n 1, 1), (111, .iload_n 2, 1), (112, .iload 4, 2), (114, .invokevirtual 59, 3), (117, .invokevirtual 91, 3), (120, .iinc 4 1, 3), (123, .goto (-21), 3), (126, .iconst 1, 1), (127, .ireturn, 1)]
theorem DX6_clearPlace : ∀ q ∈ tX6_clearPlace, decode cX6_clearPlace q.1 = .ok (q.2.1, q.2.2) := by decide +kernel
abbrev wsX6_makeHoleIfEmpty : List Cond := Cond.code yX6_makeHoleIfEmpty cX6_makeHoleIfEmpty 2 none :: gW
theorem eX6_makeHoleIfEmpty : yX6_makeHoleIfEmpty.cls ≠ "java/lang/invoke/MethodHandle" ∧ yX6_makeHoleIfEmpty.cls ≠ "java/lang/invoke/VarHandle" ∧ (parseMethodDescriptor yX6_makeHoleIfEmpty.desc).map (fun d => d.parameters.length) = some 1 := by decide +kernel
def tX6_makeHoleIfEmpty : List (Nat × Instr × Nat) := [(0, .aload_n 0, 1), (1, .getfield 12, 3), (4, .aload_n 0, 1), (5, .getfield 12, 3), (8, .iload_n 1, 1), (9, .invokevirtual 63, 3), (12, .invokevirtual 94, 3), (15, .ifCond .eq 16, 3), (18, .aload_n 0, 1), (19, .getfield 12, 3), (22, .iload_n 1, 1), (23, .iconst (-1), 1), (24, .aload_n 0, 1), (25, .getfield 38, 3), (28, .invokevirtual 88, 3), (31, .return_, 1)]
theorem DX6_makeHoleIfEmpty : ∀ q ∈ tX6_makeHoleIfEmpty, decode cX6_makeHoleIfEmpty q.1 = .ok (q.2.1, q.2.2) := by decide +kernel
abbrev wsX6_slotToLevel : List Cond := Cond.code yX6_slotToLevel cX6_slotToLevel 6 (some .int) :: gW
theorem eX6_slotToLevel : yX6_slotToLevel.cls ≠ "java/lang/invoke/MethodHandle" ∧ yX6_slotToLevel.cls ≠ "java/lang/invoke/VarHandle" ∧ (parseMethodDescriptor yX6_slotToLevel.desc).map (fun d => d.parameters.length) = some 3 := by decide +kernel
def tX6_slotToLevel : List (Nat × Instr × Nat) := [(0, .iload_n 1, 1), (1, .istore 4, 2), (3, .iconst 3, 1), (4, .istore 5, 2), (6, .iload 5, 2), (8, .iload_n 3, 1), (9, .if_icmp .le 28, 3), (12, .aload_n 0, 1), (13, .getfield 12, 3), (16, .aload_n 0, 1), (17, .getfield 12, 3), (20, .iload 4, 2), (22, .invokevirtual 63, 3), (25, .iload_n 2, 1), (26, .invokevirtual 80, 3), (29, .istore 4, 2), (31, .iinc 5 (-1), 3), (34, .goto (-28), 3), (37, .iload 4, 2), (39, .ireturn, 1)]
theorem DX6_slotToLevel : ∀ q ∈ tX6_slotToLevel, decode cX6_slotToLevel q.1 = .ok (q.2.1, q.2.2) := by decide +kernel
abbrev wsX6_newBlocksWanted : List Cond := Cond.code yX6_newBlocksWanted cX6_newBlocksWanted 7 (some .int) :: gW
theorem eX6_newBlocksWanted : yX6_newBlocksWanted.cls ≠ "java/lang/invoke/MethodHandle" ∧ yX6_newBlocksWanted.cls ≠ "java/lang/invoke/VarHandle" ∧ (parseMethodDescriptor yX6_newBlocksWanted.desc).map (fun d => d.parameters.length) = some 3 := by decide +kernel
def tX6_newBlocksWanted : List (Nat × Instr × Nat) := [(0, .iconst 0, 1), (1, .istore 4, 2), (3, .iload_n 1, 1), (4, .istore 5, 2), (6, .iconst 3, 1), (7, .istore 6, 2), (9, .iload 6, 2), (11, .iload_n 3, 1), (12, .if_icmp .lt 47, 3), (15, .aload_n 0, 1), (16, .getfield 12, 3), (19, .iload 5, 2), (21, .aload_n 0, 1), (22, .getfield 38, 3), (25, .invokevirtual 98, 3), (28, .ifCond .eq 6, 3), (31, .iinc 4 1, 3), (34, .aload_n 0, 1), (35, .getfield 12, 3), (38, .aload_n 0, 1), (39, .getfield 12, 3), (42, .iload 5, 2), (44, .invokevirtual 63, 3), (47, .iload_n 2, 1), (48, .invokevirtual 80, 3), (51, .istore 5, 2), (53, .iinc 6 (-1), 3), (56, .goto (-47), 3), (59, .iload 4, 2), (61, .ireturn, 1)]
theorem DX6_newBlocksWanted : ∀ q ∈ tX6_newBlocksWanted, decode cX6_newBlocksWanted q.1 = .ok (q.2.1, q.2.2) := by decide +kernel
abbrev wsX6_keepLive : List Cond := Cond.code yX6_keepLive cX6_keepLive 4 (some .int) :: gW
theorem eX6_keepLive : yX6_keepLive.cls ≠ "java/lang/invoke/MethodHandle" ∧ yX6_keepLive.cls ≠ "java/lang/invoke/VarHandle" ∧ (parseMethodDescriptor yX6_keepLive.desc).map (fun d => d.parameters.length) = some 1 := by decide +kernel
def tX6_keepLive : List (Nat × Instr × Nat) := [(0, .aload_n 0, 1), (1, .getfield 42, 3), (4, .istore_n 3, 1), (5, .aload_n 0, 1), (6, .getfield 12, 3), (9, .sipush 4802, 3), (12, .iload_n 3, 1), (13, .iadd, 1), (14, .aload_n 0, 1), (15, .getfield 12, 3), (18, .sipush 4800, 3), (21, .invokevirtual 63, 3), (24, .aload_n 0, 1), (25, .getfield 12, 3), (28, .sipush 4800, 3), (31, .invokevirtual 102, 3), (34, .invokevirtual 88, 3), (37, .aload_n 0, 1), (38, .getfield 23, 3), (41, .iload_n 3, 1), (42, .lload_n 1, 1), (43, .invokevirtual 105, 3), (46, .aload_n 0, 1), (47, .getfield 30, 3), (50, .iload_n 3, 1), (51, .aload_n 0, 1), (52, .getfield 38, 3), (55, .invokevirtual 108, 3), (58, .aload_n 0, 1), (59, .dup, 1), (60, .getfield 42, 3), (63, .iconst 1, 1), (64, .iadd, 1), (65, .putfield 42, 3), (68, .aload_n 0, 1), (69, .dup, 1), (70, .getfield 38, 3), (73, .iconst 1, 1), (74, .iadd, 1), (75, .putfield 38, 3), (78, .iload_n 3, 1), (79, .ireturn, 1)]
theorem DX6_keepLive : ∀ q ∈ tX6_keepLive, decode cX6_keepLive q.1 = .ok (q.2.1, q.2.2) := by decide +kernel
abbrev wsX6_dropSnapshot : List Cond := Cond.code yX6_dropSnapshot cX6_dropSnapshot 4 (some .int) :: gW
theorem eX6_dropSnapshot : yX6_dropSnapshot.cls ≠ "java/lang/invoke/MethodHandle" ∧ yX6_dropSnapshot.cls ≠ "java/lang/invoke/VarHandle" ∧ (parseMethodDescriptor yX6_dropSnapshot.desc).map (fun d => d.parameters.length) = some 1 := by decide +kernel
def tX6_dropSnapshot : List (Nat × Instr × Nat) := [(0, .aload_n 0, 1), (1, .dup, 1), (2, .getfield 42, 3), (5, .iconst 1, 1), (6, .isub, 1), (7, .putfield 42, 3), (10, .iload_n 1, 1), (11, .istore_n 2, 1), (12, .iload_n 2, 1), (13, .aload_n 0, 1), (14, .getfield 42, 3), (17, .if_icmp .ge 79, 3), (20, .sipush 4802, 3), (23, .iload_n 2, 1), (24, .iadd, 1), (25, .iconst 1, 1), (26, .iadd, 1), (27, .istore_n 3, 1), (28, .aload_n 0, 1), (29, .getfield 12, 3), (32, .iload_n 3, 1), (33, .iconst 1, 1), (34, .isub, 1), (35, .aload_n 0, 1), (36, .getfield 12, 3), (39, .iload_n 3, 1), (40, .invokevirtual 63, 3), (43, .aload_n 0, 1), (44, .getfield 12, 3), (47, .iload_n 3, 1), (48, .invokevirtual 102, 3), (51, .invokevirtual 88, 3), (54, .aload_n 0, 1), (55, .getfield 23, 3), (58, .iload_n 2, 1), (59, .aload_n 0, 1), (60, .getfield 23, 3), (63, .iload_n 2, 1), (64, .iconst 1, 1), (65, .iadd, 1), (66, .invokevirtual 49, 3), (69, .invokevirtual 105, 3), (72, .aload_n 0, 1), (73, .getfield 30, 3), (76, .iload_n 2, 1), (77, .aload_n 0, 1), (78, .getfield 30, 3), (81, .iload_n 2, 1), (82, .iconst 1, 1), (83, .iadd, 1), (84, .invokevirtual 53, 3), (87, .invokevirtual 108, 3), (90, .iinc 2 1, 3), (93, .goto (-81), 3), (96, .aload_n 0, 1), (97, .getfield 12, 3), (100, .sipush 4802, 3), (103, .aload_n 0, 1), (104, .getfield 42, 3), (107, .iadd, 1), (108, .iconst (-1), 1), (109, .iconst 0, 1), (110, .invokevirtual 88, 3), (113, .aload_n 0, 1), (114, .getfield 12, 3), (117, .invokevirtual 56, 3), (120, .aload_n 0, 1), (121, .getfield 42, 3), (124, .ireturn, 1)]
theorem DX6_dropSnapshot : ∀ q ∈ tX6_dropSnapshot, decode cX6_dropSnapshot q.1 = .ok (q.2.1, q.2.2) := by decide +kernel
abbrev wsX6_returnToLatest : List Cond := Cond.code yX6_returnToLatest cX6_returnToLatest 2 (some .int) :: gW
theorem eX6_returnToLatest : yX6_returnToLatest.cls ≠ "java/lang/invoke/MethodHandle" ∧ yX6_returnToLatest.cls ≠ "java/lang/invoke/VarHandle" ∧ (parseMethodDescriptor yX6_returnToLatest.desc).map (fun d => d.parameters.length) = some 0 := by decide +kernel
def tX6_returnToLatest : List (Nat × Instr × Nat) := [(0, .sipush 4802, 3), (3, .aload_n 0, 1), (4, .getfield 42, 3), (7, .iadd, 1), (8, .iconst 1, 1), (9, .isub, 1), (10, .istore_n 1, 1), (11, .aload_n 0, 1), (12, .getfield 12, 3), (15, .sipush 4800, 3), (18, .aload_n 0, 1), (19, .getfield 12, 3), (22, .iload_n 1, 1), (23, .invokevirtual 63, 3), (26, .aload_n 0, 1), (27, .getfield 12, 3), (30, .iload_n 1, 1), (31, .invokevirtual 102, 3), (34, .invokevirtual 88, 3), (37, .aload_n 0, 1), (38, .getfield 12, 3), (41, .invokevirtual 56, 3), (44, .aload_n 0, 1), (45, .getfield 42, 3), (48, .iconst 1, 1), (49, .isub, 1), (50, .ireturn, 1)]
theorem DX6_returnToLatest : ∀ q ∈ tX6_returnToLatest, decode cX6_returnToLatest q.1 = .ok (q.2.1, q.2.2) := by decide +kernel
abbrev wsX6_isLatest : List Cond := Cond.code yX6_isLatest cX6_isLatest 3 (some .boolean) :: gW
theorem eX6_isLatest : yX6_isLatest.cls ≠ "java/lang/invoke/MethodHandle" ∧ yX6_isLatest.cls ≠ "java/lang/invoke/VarHandle" ∧ (parseMethodDescriptor yX6_isLatest.desc).map (fun d => d.parameters.length) = some 1 := by decide +kernel
def tX6_isLatest : List (Nat × Instr × Nat) := [(0, .aload_n 0, 1), (1, .getfield 42, 3), (4, .ifCond .le 25, 3), (7, .aload_n 0, 1), (8, .getfield 23, 3), (11, .aload_n 0, 1), (12, .getfield 42, 3), (15, .iconst 1, 1), (16, .isub, 1), (17, .invokevirtual 49, 3), (20, .lload_n 1, 1), (21, .lcmp, 1), (22, .ifCond .ne 7, 3), (25, .iconst 1, 1), (26, .goto 4, 3), (29, .iconst 0, 1), (30, .ireturn, 1)]
theorem DX6_isLatest : ∀ q ∈ tX6_isLatest, decode cX6_isLatest q.1 = .ok (q.2.1, q.2.2) := by decide +kernel
abbrev wsX6_hasMark : List Cond := Cond.code yX6_hasMark cX6_hasMark 4 (some .boolean) :: gW
theorem eX6_hasMark : yX6_hasMark.cls ≠ "java/lang/invoke/MethodHandle" ∧ yX6_hasMark.cls ≠ "java/lang/invoke/VarHandle" ∧ (parseMethodDescriptor yX6_hasMark.desc).map (fun d => d.parameters.length) = some 1 := by decide +kernel
def tX6_hasMark : List (Nat × Instr × Nat) := [(0, .iconst 0, 1), (1, .istore_n 3, 1), (2, .iload_n 3, 1), (3, .aload_n 0, 1), (4, .getfield 42, 3), (7, .if_icmp .ge 24, 3), (10, .aload_n 0, 1), (11, .getfield 23, 3), (14, .iload_n 3, 1), (15, .invokevirtual 49, 3), (18, .lload_n 1, 1), (19, .lcmp, 1), (20, .ifCond .ne 5, 3), (23, .iconst 1, 1), (24, .ireturn, 1), (25, .iinc 3 1, 3), (28, .goto (-26), 3), (31, .iconst 0, 1), (32, .ireturn, 1)]
theorem DX6_hasMark : ∀ q ∈ tX6_hasMark, decode cX6_hasMark q.1 = .ok (q.2.1, q.2.2) := by decide +kernel
abbrev wsX6_isDirty : List Cond := Cond.code yX6_isDirty cX6_isDirty 2 (some .boolean) :: gW
theorem eX6_isDirty : yX6_isDirty.cls ≠ "java/lang/invoke/MethodHandle" ∧ yX6_isDirty.cls ≠ "java/lang/invoke/VarHandle" ∧ (parseMethodDescriptor yX6_isDirty.desc).map (fun d => d.parameters.length) = some 0 := by decide +kernel
def tX6_isDirty : List (Nat × Instr × Nat) := [(0, .aload_n 0, 1), (1, .getfield 42, 3), (4, .ifCond .ne 23, 3), (7, .aload_n 0, 1), (8, .getfield 12, 3), (11, .sipush 4800, 3), (14, .invokevirtual 63, 3), (17, .iconst (-1), 1), (18, .if_icmp .eq 7, 3), (21, .iconst 1, 1), (22, .goto 4, 3), (25, .iconst 0, 1), (26, .ireturn, 1), (27, .sipush 4802, 3), (30, .aload_n 0, 1), (31, .getfield 42, 3), (34, .iadd, 1), (35, .iconst 1, 1), (36, .isub, 1), (37, .istore_n 1, 1), (38, .aload_n 0, 1), (39, .getfield 12, 3), (42, .sipush 4800, 3), (45, .invokevirtual 63, 3), (48, .aload_n 0, 1), (49, .getfield 12, 3), (52, .iload_n 1, 1), (53, .invokevirtual 63, 3), (56, .if_icmp .ne 24, 3), (59, .aload_n 0, 1), (60, .getfield 12, 3), (63, .sipush 4800, 3), (66, .invokevirtual 102, 3), (69, .aload_n 0, 1), (70, .getfield 12, 3), (73, .iload_n 1, 1), (74, .invokevirtual 102, 3), (77, .if_icmp .eq 7, 3), (80, .iconst 1, 1), (81, .goto 4, 3), (84, .iconst 0, 1), (85, .ireturn, 1)]
theorem DX6_isDirty : ∀ q ∈ tX6_isDirty, decode cX6_isDirty q.1 = .ok (q.2.1, q.2.2) := by decide +kernel
abbrev wsX6_makeHidden : List Cond := Cond.code yX6_makeHidden cX6_makeHidden 1 none :: gW
theorem eX6_makeHidden : yX6_makeHidden.cls ≠ "java/lang/invoke/MethodHandle" ∧ yX6_makeHidden.cls ≠ "java/lang/invoke/VarHandle" ∧ (parseMethodDescriptor yX6_makeHidden.desc).map (fun d => d.parameters.length) = some 0 := by decide +kernel
def tX6_makeHidden : List (Nat × Instr × Nat) := [(0, .aload_n 0, 1), (1, .getfield 12, 3), (4, .sipush 4801, 3), (7, .aload_n 0, 1), (8, .getfield 12, 3), (11, .sipush 4800, 3), (14, .invokevirtual 63, 3), (17, .aload_n 0, 1), (18, .getfield 12, 3), (21, .sipush 4800, 3), (24, .invokevirtual 102, 3), (27, .invokevirtual 88, 3), (30, .aload_n 0, 1), (31, .iconst 1, 1), (32, .putfield 45, 3), (35, .return_, 1)]
theorem DX6_makeHidden : ∀ q ∈ tX6_makeHidden, decode cX6_makeHidden q.1 = .ok (q.2.1, q.2.2) := by decide +kernel
abbrev wsX6_dropHidden : List Cond := Cond.code yX6_dropHidden cX6_dropHidden 1 none :: gW
theorem eX6_dropHidden : yX6_dropHidden.cls ≠ "java/lang/invoke/MethodHandle" ∧ yX6_dropHidden.cls ≠ "java/lang/invoke/VarHandle" ∧ (parseMethodDescriptor yX6_dropHidden.desc).map (fun d => d.parameters.length) = some 0 := by decide +kernel
def tX6_dropHidden : List (Nat × Instr × Nat) := [(0, .aload_n 0, 1), (1, .getfield 12, 3), (4, .sipush 4801, 3), (7, .iconst (-1), 1), (8, .iconst 0, 1), (9, .invokevirtual 88, 3), (12, .aload_n 0, 1), (13, .getfield 12, 3), (16, .invokevirtual 56, 3), (19, .aload_n 0, 1), (20, .iconst 0, 1), (21, .putfield 45, 3), (24, .return_, 1)]
theorem DX6_dropHidden : ∀ q ∈ tX6_dropHidden, decode cX6_dropHidden q.1 = .ok (q.2.1, q.2.2) := by decide +kernel
abbrev wsX6_keepHidden : List Cond := Cond.code yX6_keepHidden cX6_keepHidden 3 none :: gW
theorem eX6_keepHidden : yX6_keepHidden.cls ≠ "java/lang/invoke/MethodHandle" ∧ yX6_keepHidden.cls ≠ "java/lang/invoke/VarHandle" ∧ (parseMethodDescriptor yX6_keepHidden.desc).map (fun d => d.parameters.length) = some 1 := by decide +kernel
def tX6_keepHidden : List (Nat × Instr × Nat) := [(0, .aload_n 0, 1), (1, .getfield 12, 3), (4, .sipush 4800, 3), (7, .aload_n 0, 1), (8, .getfield 12, 3), (11, .sipush 4801, 3), (14, .invokevirtual 63, 3), (17, .aload_n 0, 1), (18, .getfield 12, 3), (21, .sipush 4801, 3), (24, .invokevirtual 102, 3), (27, .invokevirtual 88, 3), (30, .aload_n 0, 1), (31, .lload_n 1, 1), (32, .invokevirtual 111, 3), (35, .pop, 1), (36, .aload_n 0, 1), (37, .getfield 12, 3), (40, .sipush 4801, 3), (43, .iconst (-1), 1), (44, .iconst 0, 1), (45, .invokevirtual 88, 3), (48, .aload_n 0, 1), (49, .iconst 0, 1), (50, .putfield 45, 3), (53, .return_, 1)]
theorem DX6_keepHidden : ∀ q ∈ tX6_keepHidden, decode cX6_keepHidden q.1 = .ok (q.2.1, q.2.2) := by decide +kernel
abbrev wsX7_init : List Cond := Cond.code yX7_init cX7_init 1 none :: gW
theorem eX7_init : yX7_init.cls ≠ "java/lang/invoke/MethodHandle" ∧ yX7_init.cls ≠ "java/lang/invoke/VarHandle" ∧ (parseMethodDescriptor yX7_init.desc).map (fun d => d.parameters.length) = some 0 := by decide +kernel
def tX7_init : List (Nat × Instr × Nat) := [(0, .aload_n 0, 1), (1, .invokespecial 3, 3), (4, .aload_n 0, 1), (5, .new 9, 3), (8, .dup, 1), (9, .invokespecial 11, 3), (12, .putfield 12, 3), (15, .aload_n 0, 1), (16, .new 16, 3), (19, .dup, 1), (20, .aload_n 0, 1), (21, .getfield 12, 3), (24, .invokespecial 18, 3), (27, .putfield 21, 3), (30, .aload_n 0, 1), (31, .new 25, 3), (34, .dup, 1), (35, .invokespecial 27, 3), (38, .putfield 28, 3), (41, .aload_n 0, 1), (42, .new 25, 3), (45, .dup, 1), (46, .invokespecial 27, 3), (49, .putfield 32, 3), (52, .aload_n 0, 1), (53, .new 35, 3), (56, .dup, 1), (57, .aload_n 0, 1), (58, .getfield 28, 3), (61, .aload_n 0, 1), (62, .getfield 12, 3), (65, .invokespecial 37, 3), (68, .putfield 40, 3), (71, .aload_n 0, 1), (72, .new 35, 3), (75, .dup, 1), (76, .aload_n 0, 1), (77, .getfield 32, 3), (80, .aload_n 0, 1), (81, .getfield 12, 3), (84, .invokespecial 37, 3), (87, .putfield 44, 3), (90, .aload_n 0, 1), (91, .lconst 1, 1), (92, .putfield 47, 3), (95, .return_, 1)]
theorem DX7_init : ∀ q ∈ tX7_init, decode cX7_init q.1 = .ok (q.2.1, q.2.2) := by decide +kernel
abbrev wsX7_format : List Cond := Cond.code yX7_format cX7_format 4 none :: gW
theorem eX7_format : yX7_format.cls ≠ "java/lang/invoke/MethodHandle" ∧ yX7_format.cls ≠ "java/lang/invoke/VarHandle" ∧ (parseMethodDescriptor yX7_format.desc).map (fun d => d.parameters.length) = some 2 := by decide +kernel
def tX7_format : List (Nat × Instr × Nat) := [(0, .aload_n 0, 1), (1, .iload_n 1, 1), (2, .invokevirtual 51, 3), (5, .astore_n 3, 1), (6, .aload_n 3, 1), (7, .ifnull 15, 3), (10, .iload_n 2, 1), (11, .iconst 4, 1), (12, .if_icmp .lt 10, 3), (15, .iload_n 2, 1), (16, .sipush 600, 3), (19, .if_icmp .le 11, 3), (22, .new 55, 3), (25, .dup, 1), (26, .invokespecial 57, 3), (29, .athrow, 1), (30, .aload_n 3, 1), (31, .iload_n 2, 1), (32, .invokevirtual 58, 3), (35, .aload_n 0, 1), (36, .iload_n 1, 1), (37, .invokevirtual 62, 3), (40, .invokevirtual 66, 3), (43, .return_, 1)]
theorem DX7_format : ∀ q ∈ tX7_format, decode cX7_format q.1 = .ok (q.2.1, q.2.2) := by decide +kernel
abbrev wsX7_write : List Cond := Cond.code yX7_write cX7_write 7 (some .int) :: gW
theorem eX7_write : yX7_write.cls ≠ "java/lang/invoke/MethodHandle" ∧ yX7_write.cls ≠ "java/lang/invoke/VarHandle" ∧ (parseMethodDescriptor yX7_write.desc).map (fun d => d.parameters.length) = some 3 := by decide +kernel
def tX7_write : List (Nat × Instr × Nat) := [(0, .aload_n 0, 1), (1, .iload_n 1, 1), (2, .invokevirtual 51, 3), (5, .astore 5, 2), (7, .aload 5, 2), (9, .ifnull 10, 3), (12, .iload_n 2, 1), (13, .invokestatic 69, 3), (16, .ifCond .ne 11, 3), (19, .new 55, 3), (22, .dup, 1), (23, .invokespecial 57, 3), (26, .athrow, 1), (27, .aload 5, 2), (29, .invokevirtual 73, 3), (32, .ifCond .eq 6, 3), (35, .bipush 6, 2), (37, .ireturn, 1), (38, .aload 5, 2), (40, .sipush 4800, 3), (43, .iload_n 2, 1), (44, .lload_n 3, 1), (45, .invokevirtual 77, 3), (48, .istore 6, 2), (50, .aload 5, 2), (52, .invokevirtual 81, 3), (55, .iload 6, 2), (57, .ifCond .eq 7, 3), (60, .iconst 0, 1), (61, .goto 4, 3), (64, .iconst 5, 1), (65, .ireturn, 1)]
theorem DX7_write : ∀ q ∈ tX7_write, decode cX7_write q.1 = .ok (q.2.1, q.2.2) := by decide +kernel
abbrev wsX7_clear : List Cond := Cond.code yX7_clear cX7_clear 5 (some .int) :: gW
theorem eX7_clear : yX7_clear.cls ≠ "java/lang/invoke/MethodHandle" ∧ yX7_clear.cls ≠ "java/lang/invoke/VarHandle" ∧ (parseMethodDescriptor yX7_clear.desc).map (fun d => d.parameters.length) = some 2 := by decide +kernel
def tX7_clear : List (Nat × Instr × Nat) := [(0, .aload_n 0, 1), (1, .iload_n 1, 1), (2, .invokevirtual 51, 3), (5, .astore_n 3, 1), (6, .aload_n 3, 1), (7, .ifnull 10, 3), (10, .iload_n 2, 1), (11, .invokestatic 69, 3), (14, .ifCond .ne 11, 3), (17, .new 55, 3), (20, .dup, 1), (21, .invokespecial 57, 3), (24, .athrow, 1), (25, .aload_n 3, 1), (26, .invokevirtual 73, 3), (29, .ifCond .eq 6, 3), (32, .bipush 6, 2), (34, .ireturn, 1), (35, .aload_n 3, 1), (36, .sipush 4800, 3), (39, .iload_n 2, 1), (40, .invokevirtual 84, 3), (43, .istore 4, 2), (45, .aload_n 3, 1), (46, .invokevirtual 81, 3), (49, .iload 4, 2), (51, .ifCond .eq 7, 3), (54, .iconst 0, 1), (55, .goto 4, 3), (58, .iconst 5, 1), (59, .ireturn, 1)]
theorem DX7_clear : ∀ q ∈ tX7_clear, decode cX7_clear q.1 = .ok (q.2.1, q.2.2) := by decide +kernel
abbrev wsX7_read : List Cond := Cond.code yX7_read cX7_read 5 (some .long) :: gW
theorem eX7_read : yX7_read.cls ≠ "java/lang/invoke/MethodHandle" ∧ yX7_read.cls ≠ "java/lang/invoke/VarHandle" ∧ (parseMethodDescriptor yX7_read.desc).map (fun d => d.parameters.length) = some 3 := by decide +kernel
def tX7_read : List (Nat × Instr × Nat) := [(0, .aload_n 0, 1), (1, .iload_n 1, 1), (2, .invokevirtual 51, 3), (5, .astore 4, 2), (7, .aload 4, 2), (9, .ifnull 10, 3), (12, .iload_n 3, 1), (13, .invokestatic 69, 3), (16, .ifCond .ne 11, 3), (19, .new 55, 3), (22, .dup, 1), (23, .invokespecial 57, 3), (26, .athrow, 1), (27, .iload_n 2, 1), (28, .iconst (-1), 1), (29, .if_icmp .eq 20, 3), (32, .aload 4, 2), (34, .iload_n 2, 1), (35, .invokevirtual 88, 3), (38, .ifCond .ne 11, 3), (41, .new 91, 3), (44, .dup, 1), (45, .invokespecial 93, 3), (48, .athrow, 1), (49, .aload 4, 2), (51, .iload_n 2, 1), (52, .iconst (-1), 1), (53, .if_icmp .ne 9, 3), (56, .sipush 4800, 3), (59, .goto 8, 3), (62, .sipush 4802, 3), (65, .iload_n 2, 1), (66, .iadd, 1), (67, .iload_n 3, 1), (68, .invokevirtual 94, 3), (71, .lreturn, 1)]
theorem DX7_read : ∀ q ∈ tX7_read, decode cX7_read q.1 = .ok (q.2.1, q.2.2) := by decide +kernel
abbrev wsX7_snapshot : List Cond := Cond.code yX7_snapshot cX7_snapshot 4 (some .int) :: gW
theorem eX7_snapshot : yX7_snapshot.cls ≠ "java/lang/invoke/MethodHandle" ∧ yX7_snapshot.cls ≠ "java/lang/invoke/VarHandle" ∧ (parseMethodDescriptor yX7_snapshot.desc).map (fun d => d.parameters.length) = some 1 := by decide +kernel
def tX7_snapshot : List (Nat × Instr × Nat) := [(0, .aload_n 0, 1), (1, .iload_n 1, 1), (2, .invokevirtual 51, 3), (5, .astore_n 2, 1), (6, .aload_n 2, 1), (7, .ifnonnull 11, 3), (10, .new 55, 3), (13, .dup, 1), (14, .invokespecial 57, 3), (17, .athrow, 1), (18, .aload_n 2, 1), (19, .invokevirtual 73, 3), (22, .ifCond .eq 11, 3), (25, .new 98, 3), (28, .dup, 1), (29, .invokespecial 100, 3), (32, .athrow, 1), (33, .aload_n 2, 1), (34, .invokevirtual 101, 3), (37, .bipush 20, 2), (39, .if_icmp .lt 11, 3), (42, .new 105, 3), (45, .dup, 1), (46, .invokespecial 107, 3), (49, .athrow, 1), (50, .aload_n 2, 1), (51, .aload_n 0, 1), (52, .getfield 47, 3), (55, .invokevirtual 108, 3), (58, .istore_n 3, 1), (59, .aload_n 0, 1), (60, .dup, 1), (61, .getfield 47, 3), (64, .lconst 1, 1), (65, .ladd, 1), (66, .putfield 47, 3), (69, .iload_n 3, 1), (70, .ireturn, 1)]
theorem DX7_snapshot : ∀ q ∈ tX7_snapshot, decode cX7_snapshot q.1 = .ok (q.2.1, q.2.2) := by decide +kernel
abbrev wsX7_destroy : List Cond := Cond.code yX7_destroy cX7_destroy 4 (some .int) :: gW
theorem eX7_destroy : yX7_destroy.cls ≠ "java/lang/invoke/MethodHandle" ∧ yX7_destroy.cls ≠ "java/lang/invoke/VarHandle" ∧ (parseMethodDescriptor yX7_destroy.desc).map (fun d => d.parameters.length) = some 2 := by decide +kernel
def tX7_destroy : List (Nat × Instr × Nat) := [(0, .aload_n 0, 1), (1, .iload_n 1, 1), (2, .invokevirtual 51, 3), (5, .astore_n 3, 1), (6, .aload_n 3, 1), (7, .ifnonnull 11, 3), (10, .new 55, 3), (13, .dup, 1), (14, .invokespecial 57, 3), (17, .athrow, 1), (18, .aload_n 3, 1), (19, .invokevirtual 73, 3), (22, .ifCond .eq 11, 3), (25, .new 98, 3), (28, .dup, 1), (29, .invokespecial 100, 3), (32, .athrow, 1), (33, .aload_n 3, 1), (34, .iload_n 2, 1), (35, .invokevirtual 88, 3), (38, .ifCond .ne 11, 3), (41, .new 91, 3), (44, .dup, 1), (45, .invokespecial 93, 3), (48, .athrow, 1), (49, .aload_n 3, 1), (50, .iload_n 2, 1), (51, .invokevirtual 112, 3), (54, .ireturn, 1)]
theorem DX7_destroy : ∀ q ∈ tX7_destroy, decode cX7_destroy q.1 = .ok (q.2.1, q.2.2) := by decide +kernel
abbrev wsX7_rollback : List Cond := Cond.code yX7_rollback cX7_rollback 3 (some .int) :: gW
theorem eX7_rollback : yX7_rollback.cls ≠ "java/lang/invoke/MethodHandle" ∧ yX7_rollback.cls ≠ "java/lang/invoke/VarHandle" ∧ (parseMethodDescriptor yX7_rollback.desc).map (fun d => d.parameters.length) = some 1 := by decide +kernel
def tX7_rollback : List (Nat × Instr × Nat) := [(0, .aload_n 0, 1), (1, .iload_n 1, 1), (2, .invokevirtual 51, 3), (5, .astore_n 2, 1), (6, .aload_n 2, 1), (7, .ifnonnull 11, 3), (10, .new 55, 3), (13, .dup, 1), (14, .invokespecial 57, 3), (17, .athrow, 1), (18, .aload_n 2, 1), (19, .invokevirtual 73, 3), (22, .ifCond .eq 11, 3), (25, .new 98, 3), (28, .dup, 1), (29, .invokespecial 100, 3), (32, .athrow, 1), (33, .aload_n 2, 1), (34, .invokevirtual 101, 3), (37, .ifCond .ne 11, 3), (40, .new 91, 3), (43, .dup, 1), (44, .invokespecial 93, 3), (47, .athrow, 1), (48, .aload_n 2, 1), (49, .invokevirtual 116, 3), (52, .ireturn, 1)]
theorem DX7_rollback : ∀ q ∈ tX7_rollback, decode cX7_rollback q.1 = .ok (q.2.1, q.2.2) := by decide +kernel
abbrev wsX7_send : List Cond := Cond.code yX7_send cX7_send 5 (some .int) :: gW
theorem eX7_send : yX7_send.cls ≠ "java/lang/invoke/MethodHandle" ∧ yX7_send.cls ≠ "java/lang/invoke/VarHandle" ∧ (parseMethodDescriptor yX7_send.desc).map (fun d => d.parameters.length) = some 3 := by decide +kernel
def tX7_send : List (Nat × Instr × Nat) := [(0, .aload_n 0, 1), (1, .iload_n 1, 1), (2, .invokevirtual 51, 3), (5, .astore 4, 2), (7, .aload 4, 2), (9, .ifnonnull 11, 3), (12, .new 55, 3), (15, .dup, 1), (16, .invokespecial 57, 3), (19, .athrow, 1), (20, .aload 4, 2), (22, .iload_n 3, 1), (23, .invokevirtual 88, 3), (26, .ifCond .ne 11, 3), (29, .new 91, 3), (32, .dup, 1), (33, .invokespecial 93, 3), (36, .athrow, 1), (37, .iload_n 2, 1), (38, .iconst (-1), 1), (39, .if_icmp .eq 20, 3), (42, .iload_n 2, 1), (43, .ifCond .lt 8, 3), (46, .iload_n 2, 1), (47, .iload_n 3, 1), (48, .if_icmp .lt 11, 3), (51, .new 98, 3), (54, .dup, 1), (55, .invokespecial 100, 3), (58, .athrow, 1), (59, .aload_n 0, 1), (60, .getfield 21, 3), (63, .aload 4, 2), (65, .iload_n 2, 1), (66, .iload_n 3, 1), (67, .invokevirtual 119, 3), (70, .aload_n 0, 1), (71, .getfield 12, 3), (74, .invokevirtual 123, 3), (77, .ireturn, 1)]
theorem DX7_send : ∀ q ∈ tX7_send, decode cX7_send q.1 = .ok (q.2.1, q.2.2) := by decide +kernel
abbrev wsX7_receive : List Cond := Cond.code yX7_receive cX7_receive 2 (some .int) :: gW
theorem eX7_receive : yX7_receive.cls ≠ "java/lang/invoke/MethodHandle" ∧ yX7_receive.cls ≠ "java/lang/invoke/VarHandle" ∧ (parseMethodDescriptor yX7_receive.desc).map (fun d => d.parameters.length) = some 1 := by decide +kernel
def tX7_receive : List (Nat × Instr × Nat) := [(0, .aload_n 0, 1), (1, .iload_n 1, 1), (2, .invokevirtual 51, 3), (5, .ifnonnull 11, 3), (8, .new 55, 3), (11, .dup, 1), (12, .invokespecial 57, 3), (15, .athrow, 1), (16, .aload_n 0, 1), (17, .iload_n 1, 1), (18, .invokevirtual 62, 3), (21, .invokevirtual 126, 3), (24, .ireturn, 1)]
theorem DX7_receive : ∀ q ∈ tX7_receive, decode cX7_receive q.1 = .ok (q.2.1, q.2.2) := by decide +kernel
abbrev wsX7_step : List Cond := Cond.code yX7_step cX7_step 4 (some .int) :: gW
theorem eX7_step : yX7_step.cls ≠ "java/lang/invoke/MethodHandle" ∧ yX7_step.cls ≠ "java/lang/invoke/VarHandle" ∧ (parseMethodDescriptor yX7_step.desc).map (fun d => d.parameters.length) = some 2 := by decide +kernel
def tX7_step : List (Nat × Instr × Nat) := [(0, .aload_n 0, 1), (1, .iload_n 1, 1), (2, .invokevirtual 51, 3), (5, .astore_n 3, 1), (6, .aload_n 3, 1), (7, .ifnull 8, 3), (10, .iload_n 2, 1), (11, .iconst 1, 1), (12, .if_icmp .ge 11, 3), (15, .new 55, 3), (18, .dup, 1), (19, .invokespecial 57, 3), (22, .athrow, 1), (23, .aload_n 3, 1), (24, .invokevirtual 73, 3), (27, .ifCond .ne 11, 3), (30, .new 98, 3), (33, .dup, 1), (34, .invokespecial 100, 3), (37, .athrow, 1), (38, .aload_n 0, 1), (39, .iload_n 1, 1), (40, .invokevirtual 62, 3), (43, .iload_n 2, 1), (44, .invokevirtual 129, 3), (47, .ireturn, 1)]
theorem DX7_step : ∀ q ∈ tX7_step, decode cX7_step q.1 = .ok (q.2.1, q.2.2) := by decide +kernel
abbrev wsX7_crash : List Cond := Cond.code yX7_crash cX7_crash 4 (some .boolean) :: gW
theorem eX7_crash : yX7_crash.cls ≠ "java/lang/invoke/MethodHandle" ∧ yX7_crash.cls ≠ "java/lang/invoke/VarHandle" ∧ (parseMethodDescriptor yX7_crash.desc).map (fun d => d.parameters.length) = some 1 := by decide +kernel
def tX7_crash : List (Nat × Instr × Nat) := [(0, .aload_n 0, 1), (1, .iload_n 1, 1), (2, .invokevirtual 51, 3), (5, .astore_n 2, 1), (6, .aload_n 2, 1), (7, .ifnonnull 11, 3), (10, .new 55, 3), (13, .dup, 1), (14, .invokespecial 57, 3), (17, .athrow, 1), (18, .aload_n 2, 1), (19, .invokevirtual 73, 3), (22, .istore_n 3, 1), (23, .aload_n 2, 1), (24, .invokevirtual 132, 3), (27, .iload_n 3, 1), (28, .ireturn, 1)]
theorem DX7_crash : ∀ q ∈ tX7_crash, decode cX7_crash q.1 = .ok (q.2.1, q.2.2) := by decide +kernel
abbrev wsX7_stream : List Cond := Cond.code yX7_stream cX7_stream 2 (some .int) :: gW
theorem eX7_stream : yX7_stream.cls ≠ "java/lang/invoke/MethodHandle" ∧ yX7_stream.cls ≠ "java/lang/invoke/VarHandle" ∧ (parseMethodDescriptor yX7_stream.desc).map (fun d => d.parameters.length) = some 1 := by decide +kernel
def tX7_stream : List (Nat × Instr × Nat) := [(0, .aload_n 0, 1), (1, .getfield 12, 3), (4, .iload_n 1, 1), (5, .invokevirtual 135, 3), (8, .ireturn, 1)]
theorem DX7_stream : ∀ q ∈ tX7_stream, decode cX7_stream q.1 = .ok (q.2.1, q.2.2) := by decide +kernel
abbrev wsX7_patch : List Cond := Cond.code yX7_patch cX7_patch 4 (some .int) :: gW
theorem eX7_patch : yX7_patch.cls ≠ "java/lang/invoke/MethodHandle" ∧ yX7_patch.cls ≠ "java/lang/invoke/VarHandle" ∧ (parseMethodDescriptor yX7_patch.desc).map (fun d => d.parameters.length) = some 2 := by decide +kernel
def tX7_patch : List (Nat × Instr × Nat) := [(0, .iload_n 1, 1), (1, .ifCond .lt 14, 3), (4, .iload_n 1, 1), (5, .aload_n 0, 1), (6, .getfield 12, 3), (9, .invokevirtual 123, 3), (12, .if_icmp .lt 11, 3), (15, .new 91, 3), (18, .dup, 1), (19, .invokespecial 93, 3), (22, .athrow, 1), (23, .aload_n 0, 1), (24, .getfield 12, 3), (27, .iload_n 1, 1), (28, .invokevirtual 135, 3), (31, .istore_n 3, 1), (32, .aload_n 0, 1), (33, .getfield 12, 3), (36, .iload_n 1, 1), (37, .iload_n 2, 1), (38, .invokevirtual 138, 3), (41, .iload_n 3, 1), (42, .ireturn, 1)]
theorem DX7_patch : ∀ q ∈ tX7_patch, decode cX7_patch q.1 = .ok (q.2.1, q.2.2) := by decide +kernel
abbrev wsX7_cut : List Cond := Cond.code yX7_cut cX7_cut 2 none :: gW
theorem eX7_cut : yX7_cut.cls ≠ "java/lang/invoke/MethodHandle" ∧ yX7_cut.cls ≠ "java/lang/invoke/VarHandle" ∧ (parseMethodDescriptor yX7_cut.desc).map (fun d => d.parameters.length) = some 1 := by decide +kernel
def tX7_cut : List (Nat × Instr × Nat) := [(0, .iload_n 1, 1), (1, .ifCond .lt 14, 3), (4, .iload_n 1, 1), (5, .aload_n 0, 1), (6, .getfield 12, 3), (9, .invokevirtual 123, 3), (12, .if_icmp .le 11, 3), (15, .new 55, 3), (18, .dup, 1), (19, .invokespecial 57, 3), (22, .athrow, 1), (23, .aload_n 0, 1), (24, .getfield 12, 3), (27, .iload_n 1, 1), (28, .invokevirtual 142, 3), (31, .return_, 1)]
theorem DX7_cut : ∀ q ∈ tX7_cut, decode cX7_cut q.1 = .ok (q.2.1, q.2.2) := by decide +kernel
abbrev wsX7_snap : List Cond := Cond.code yX7_snap cX7_snap 5 (some .long) :: gW
theorem eX7_snap : yX7_snap.cls ≠ "java/lang/invoke/MethodHandle" ∧ yX7_snap.cls ≠ "java/lang/invoke/VarHandle" ∧ (parseMethodDescriptor yX7_snap.desc).map (fun d => d.parameters.length) = some 3 := by decide +kernel
def tX7_snap : List (Nat × Instr × Nat) := [(0, .aload_n 0, 1), (1, .iload_n 1, 1), (2, .invokevirtual 51, 3), (5, .astore 4, 2), (7, .aload 4, 2), (9, .ifnull 12, 3), (12, .aload 4, 2), (14, .iload_n 2, 1), (15, .invokevirtual 88, 3), (18, .ifCond .ne 7, 3), (21, .ldc2_w 145, 3), (24, .lreturn, 1), (25, .iload_n 3, 1), (26, .tableswitch 75 0 3 #[30, 37, 45, 60], 30), (56, .aload 4, 2), (58, .iload_n 2, 1), (59, .invokevirtual 147, 3), (62, .lreturn, 1), (63, .aload 4, 2), (65, .iload_n 2, 1), (66, .invokevirtual 151, 3), (69, .i2l, 1), (70, .lreturn, 1), (71, .aload 4, 2), (73, .invokevirtual 154, 3), (76, .sipush 4802, 3), (79, .iload_n 2, 1), (80, .iadd, 1), (81, .invokevirtual 158, 3), (84, .i2l, 1), (85, .lreturn, 1), (86, .aload 4, 2), (88, .invokevirtual 154, 3), (91, .sipush 4802, 3), (94, .iload_n 2, 1), (95, .iadd, 1), (96, .invokevirtual 163, 3), (99, .i2l, 1), (100, .lreturn, 1), (101, .ldc2_w 145, 3), (104, .lreturn, 1)]
theorem DX7_snap : ∀ q ∈ tX7_snap, decode cX7_snap q.1 = .ok (q.2.1, q.2.2) := by decide +kernel
abbrev wsX7_block : List Cond := Cond.code yX7_block cX7_block 5 (some .int) :: gW
theorem eX7_block : yX7_block.cls ≠ "java/lang/invoke/MethodHandle" ∧ yX7_block.cls ≠ "java/lang/invoke/VarHandle" ∧ (parseMethodDescriptor yX7_block.desc).map (fun d => d.parameters.length) = some 3 := by decide +kernel
def tX7_block : List (Nat × Instr × Nat) := [(0, .aload_n 0, 1), (1, .iload_n 1, 1), (2, .invokevirtual 51, 3), (5, .astore 4, 2), (7, .aload 4, 2), (9, .ifnull 15, 3), (12, .aload 4, 2), (14, .invokevirtual 154, 3), (17, .iload_n 2, 1), (18, .invokevirtual 166, 3), (21, .ifCond .ne 5, 3), (24, .iconst (-1), 1), (25, .ireturn, 1), (26, .iload_n 3, 1), (27, .tableswitch 55 0 2 #[25, 35, 45], 25), (52, .aload 4, 2), (54, .invokevirtual 154, 3), (57, .iload_n 2, 1), (58, .invokevirtual 169, 3), (61, .ireturn, 1), (62, .aload 4, 2), (64, .invokevirtual 154, 3), (67, .iload_n 2, 1), (68, .invokevirtual 172, 3), (71, .ireturn, 1), (72, .aload 4, 2), (74, .invokevirtual 154, 3), (77, .iload_n 2, 1), (78, .invokevirtual 175, 3), (81, .ireturn, 1), (82, .iconst (-1), 1), (83, .ireturn, 1)]
theorem DX7_block : ∀ q ∈ tX7_block, decode cX7_block q.1 = .ok (q.2.1, q.2.2) := by decide +kernel
abbrev wsX7_pointer : List Cond := Cond.code yX7_pointer cX7_pointer 6 (some .int) :: gW
theorem eX7_pointer : yX7_pointer.cls ≠ "java/lang/invoke/MethodHandle" ∧ yX7_pointer.cls ≠ "java/lang/invoke/VarHandle" ∧ (parseMethodDescriptor yX7_pointer.desc).map (fun d => d.parameters.length) = some 4 := by decide +kernel
def tX7_pointer : List (Nat × Instr × Nat) := [(0, .aload_n 0, 1), (1, .iload_n 1, 1), (2, .invokevirtual 51, 3), (5, .astore 5, 2), (7, .aload 5, 2), (9, .ifnull 25, 3), (12, .aload 5, 2), (14, .invokevirtual 154, 3), (17, .iload_n 2, 1), (18, .invokevirtual 166, 3), (21, .ifCond .eq 13, 3), (24, .iload_n 3, 1), (25, .ifCond .lt 9, 3), (28, .iload_n 3, 1), (29, .bipush 8, 2), (31, .if_icmp .lt 5, 3), (34, .iconst (-1), 1), (35, .ireturn, 1), (36, .aload 5, 2), (38, .invokevirtual 154, 3), (41, .iload_n 2, 1), (42, .invokevirtual 169, 3), (45, .iconst 1, 1), (46, .if_icmp .ge 5, 3), (49, .iconst (-1), 1), (50, .ireturn, 1), (51, .iload 4, 2), (53, .lookupswitch 57 #[(0, 27), (1, 42)], 27), (80, .aload 5, 2), (82, .invokevirtual 154, 3), (85, .iload_n 2, 1), (86, .bipush 8, 2), (88, .imul, 1), (89, .iload_n 3, 1), (90, .iadd, 1), (91, .invokevirtual 158, 3), (94, .ireturn, 1), (95, .aload 5, 2), (97, .invokevirtual 154, 3), (100, .iload_n 2, 1), (101, .bipush 8, 2), (103, .imul, 1), (104, .iload_n 3, 1), (105, .iadd, 1), (106, .invokevirtual 163, 3), (109, .ireturn, 1), (110, .iconst (-1), 1), (111, .ireturn, 1)]
theorem DX7_pointer : ∀ q ∈ tX7_pointer, decode cX7_pointer q.1 = .ok (q.2.1, q.2.2) := by decide +kernel
abbrev wsX7_data : List Cond := Cond.code yX7_data cX7_data 4 (some .long) :: gW
theorem eX7_data : yX7_data.cls ≠ "java/lang/invoke/MethodHandle" ∧ yX7_data.cls ≠ "java/lang/invoke/VarHandle" ∧ (parseMethodDescriptor yX7_data.desc).map (fun d => d.parameters.length) = some 2 := by decide +kernel
def tX7_data : List (Nat × Instr × Nat) := [(0, .aload_n 0, 1), (1, .iload_n 1, 1), (2, .invokevirtual 51, 3), (5, .astore_n 3, 1), (6, .aload_n 3, 1), (7, .ifnull 25, 3), (10, .aload_n 3, 1), (11, .invokevirtual 154, 3), (14, .iload_n 2, 1), (15, .invokevirtual 166, 3), (18, .ifCond .eq 14, 3), (21, .aload_n 3, 1), (22, .invokevirtual 154, 3), (25, .iload_n 2, 1), (26, .invokevirtual 169, 3), (29, .ifCond .eq 5, 3), (32, .lconst 0, 1), (33, .lreturn, 1), (34, .aload_n 3, 1), (35, .invokevirtual 154, 3), (38, .iload_n 2, 1), (39, .invokevirtual 178, 3), (42, .lreturn, 1)]
theorem DX7_data : ∀ q ∈ tX7_data, decode cX7_data q.1 = .ok (q.2.1, q.2.2) := by decide +kernel
abbrev wsX7_look : List Cond := Cond.code yX7_look cX7_look 4 (some .int) :: gW
theorem eX7_look : yX7_look.cls ≠ "java/lang/invoke/MethodHandle" ∧ yX7_look.cls ≠ "java/lang/invoke/VarHandle" ∧ (parseMethodDescriptor yX7_look.desc).map (fun d => d.parameters.length) = some 2 := by decide +kernel
def tX7_look : List (Nat × Instr × Nat) := [(0, .aload_n 0, 1), (1, .iload_n 1, 1), (2, .invokevirtual 51, 3), (5, .astore_n 3, 1), (6, .aload_n 3, 1), (7, .ifnonnull 5, 3), (10, .iconst (-1), 1), (11, .ireturn, 1), (12, .iload_n 2, 1), (13, .tableswitch 132 0 8 #[51, 59, 67, 72, 77, 90, 101, 112, 123], 51), (64, .aload_n 3, 1), (65, .invokevirtual 154, 3), (68, .invokevirtual 181, 3), (71, .ireturn, 1), (72, .aload_n 3, 1), (73, .invokevirtual 154, 3), (76, .invokevirtual 184, 3), (79, .ireturn, 1), (80, .aload_n 3, 1), (81, .invokevirtual 187, 3), (84, .ireturn, 1), (85, .aload_n 3, 1), (86, .invokevirtual 101, 3), (89, .ireturn, 1), (90, .aload_n 3, 1), (91, .invokevirtual 73, 3), (94, .ifCond .eq 7, 3), (97, .iconst 1, 1), (98, .goto 4, 3), (101, .iconst 0, 1), (102, .ireturn, 1), (103, .aload_n 3, 1), (104, .invokevirtual 154, 3), (107, .sipush 4800, 3), (110, .invokevirtual 158, 3), (113, .ireturn, 1), (114, .aload_n 3, 1), (115, .invokevirtual 154, 3), (118, .sipush 4800, 3), (121, .invokevirtual 163, 3), (124, .ireturn, 1), (125, .aload_n 3, 1), (126, .invokevirtual 154, 3), (129, .sipush 4801, 3), (132, .invokevirtual 158, 3), (135, .ireturn, 1), (136, .aload_n 0, 1), (137, .iload_n 1, 1), (138, .invokevirtual 62, 3), (141, .invokevirtual 190, 3), (144, .ireturn, 1), (145, .iconst (-1), 1), (146, .ireturn, 1)]
theorem DX7_look : ∀ q ∈ tX7_look, decode cX7_look q.1 = .ok (q.2.1, q.2.2) := by decide +kernel
abbrev wsX7_sent : List Cond := Cond.code yX7_sent cX7_sent 2 (some .int) :: gW
theorem eX7_sent : yX7_sent.cls ≠ "java/lang/invoke/MethodHandle" ∧ yX7_sent.cls ≠ "java/lang/invoke/VarHandle" ∧ (parseMethodDescriptor yX7_sent.desc).map (fun d => d.parameters.length) = some 1 := by decide +kernel
def tX7_sent : List (Nat × Instr × Nat) := [(0, .iload_n 1, 1), (1, .tableswitch 73 0 4 #[35, 43, 51, 59, 67], 35), (36, .aload_n 0, 1), (37, .getfield 21, 3), (40, .invokevirtual 193, 3), (43, .ireturn, 1), (44, .aload_n 0, 1), (45, .getfield 21, 3), (48, .invokevirtual 196, 3), (51, .ireturn, 1), (52, .aload_n 0, 1), (53, .getfield 21, 3), (56, .invokevirtual 199, 3), (59, .ireturn, 1), (60, .aload_n 0, 1), (61, .getfield 12, 3), (64, .invokevirtual 123, 3), (67, .ireturn, 1), (68, .aload_n 0, 1), (69, .getfield 47, 3), (72, .l2i, 1), (73, .ireturn, 1), (74, .iconst (-1), 1), (75, .ireturn, 1)]
theorem DX7_sent : ∀ q ∈ tX7_sent, decode cX7_sent q.1 = .ok (q.2.1, q.2.2) := by decide +kernel
abbrev wsX7_find : List Cond := Cond.code yX7_find cX7_find 2 (some (.object "TwinVolumes$Volume")) :: gW
theorem eX7_find : yX7_find.cls ≠ "java/lang/invoke/MethodHandle" ∧ yX7_find.cls ≠ "java/lang/invoke/VarHandle" ∧ (parseMethodDescriptor yX7_find.desc).map (fun d => d.parameters.length) = some 1 := by decide +kernel
def tX7_find : List (Nat × Instr × Nat) := [(0, .iload_n 1, 1), (1, .ifCond .ne 10, 3), (4, .aload_n 0, 1), (5, .getfield 28, 3), (8, .goto 16, 3), (11, .iload_n 1, 1), (12, .iconst 1, 1), (13, .if_icmp .ne 10, 3), (16, .aload_n 0, 1), (17, .getfield 32, 3), (20, .goto 4, 3), (23, .aconst_null, 1), (24, .areturn, 1)]
theorem DX7_find : ∀ q ∈ tX7_find, decode cX7_find q.1 = .ok (q.2.1, q.2.2) := by decide +kernel
abbrev wsX7_receivingOf : List Cond := Cond.code yX7_receivingOf cX7_receivingOf 2 (some (.object "TwinVolumes$Receiving")) :: gW
theorem eX7_receivingOf : yX7_receivingOf.cls ≠ "java/lang/invoke/MethodHandle" ∧ yX7_receivingOf.cls ≠ "java/lang/invoke/VarHandle" ∧ (parseMethodDescriptor yX7_receivingOf.desc).map (fun d => d.parameters.length) = some 1 := by decide +kernel
def tX7_receivingOf : List (Nat × Instr × Nat) := [(0, .iload_n 1, 1), (1, .ifCond .ne 10, 3), (4, .aload_n 0, 1), (5, .getfield 40, 3), (8, .goto 7, 3), (11, .aload_n 0, 1), (12, .getfield 44, 3), (15, .areturn, 1)]
theorem DX7_receivingOf : ∀ q ∈ tX7_receivingOf, decode cX7_receivingOf q.1 = .ok (q.2.1, q.2.2) := by decide +kernel
abbrev wsX7_isPlace : List Cond := Cond.code yX7_isPlace cX7_isPlace 1 (some .boolean) :: gW
theorem eX7_isPlace : yX7_isPlace.cls ≠ "java/lang/invoke/MethodHandle" ∧ yX7_isPlace.cls ≠ "java/lang/invoke/VarHandle" ∧ (parseMethodDescriptor yX7_isPlace.desc).map (fun d => d.parameters.length) = some 1 := by decide +kernel
def tX7_isPlace : List (Nat × Instr × Nat) := [(0, .iload_n 0, 1), (1, .ifCond .lt 14, 3), (4, .iload_n 0, 1), (5, .sipush 512, 3), (8, .if_icmp .ge 7, 3), (11, .iconst 1, 1), (12, .goto 4, 3), (15, .iconst 0, 1), (16, .ireturn, 1)]
theorem DX7_isPlace : ∀ q ∈ tX7_isPlace, decode cX7_isPlace q.1 = .ok (q.2.1, q.2.2) := by decide +kernel
abbrev wsX8_init : List Cond := Cond.code yX8_init cX8_init 1 none :: gW
theorem eX8_init : yX8_init.cls ≠ "java/lang/invoke/MethodHandle" ∧ yX8_init.cls ≠ "java/lang/invoke/VarHandle" ∧ (parseMethodDescriptor yX8_init.desc).map (fun d => d.parameters.length) = some 0 := by decide +kernel
def tX8_init : List (Nat × Instr × Nat) := [(0, .aload_n 0, 1), (1, .invokespecial 3, 3), (4, .aload_n 0, 1), (5, .iconst 2, 1), (6, .newarray .int, 2), (8, .putfield 9, 3), (11, .aload_n 0, 1), (12, .sipush 1200, 3), (15, .newarray .int, 2), (17, .putfield 13, 3), (20, .aload_n 0, 1), (21, .sipush 9600, 3), (24, .newarray .int, 2), (26, .putfield 16, 3), (29, .aload_n 0, 1), (30, .sipush 9600, 3), (33, .newarray .int, 2), (35, .putfield 19, 3), (38, .aload_n 0, 1), (39, .sipush 1200, 3), (42, .newarray .long, 2), (44, .putfield 22, 3), (47, .aload_n 0, 1), (48, .sipush 1200, 3), (51, .newarray .boolean, 2), (53, .putfield 26, 3), (56, .aload_n 0, 1), (57, .bipush 44, 2), (59, .newarray .int, 2), (61, .putfield 30, 3), (64, .aload_n 0, 1), (65, .bipush 44, 2), (67, .newarray .int, 2), (69, .putfield 33, 3), (72, .aload_n 0, 1), (73, .iconst 2, 1), (74, .newarray .int, 2), (76, .putfield 36, 3), (79, .aload_n 0, 1), (80, .iconst 2, 1), (81, .newarray .int, 2), (83, .putfield 39, 3), (86, .aload_n 0, 1), (87, .bipush 40, 2), (89, .newarray .int, 2), (91, .putfield 42, 3), (94, .aload_n 0, 1), (95, .bipush 40, 2), (97, .newarray .long, 2), (99, .putfield 45, 3), (102, .aload_n 0, 1), (103, .iconst 2, 1), (104, .newarray .boolean, 2), (106, .putfield 48, 3), (109, .aload_n 0, 1), (110, .iconst 2, 1), (111, .newarray .int, 2), (113, .putfield 51, 3), (116, .aload_n 0, 1), (117, .iconst 2, 1), (118, .newarray .int, 2), (120, .putfield 54, 3), (123, .aload_n 0, 1), (124, .iconst 2, 1), (125, .newarray .long, 2), (127, .putfield 57, 3), (130, .aload_n 0, 1), (131, .lconst 1, 1), (132, .putfield 60, 3), (135, .aload_n 0, 1), (136, .sipush 16000, 3), (139, .newarray .byte, 2), (141, .putfield 64, 3), (144, .aload_n 0, 1), (145, .sipush 600, 3), (148, .newarray .boolean, 2), (150, .putfield 68, 3), (153, .aload_n 0, 1), (154, .iconst 4, 1), (155, .newarray .int, 2), (157, .putfield 71, 3), (160, .aload_n 0, 1), (161, .iconst 0, 1), (162, .bipush 100, 2), (164, .invokevirtual 74, 3), (167, .aload_n 0, 1), (168, .iconst 1, 1), (169, .bipush 100, 2), (171, .invokevirtual 74, 3), (174, .return_, 1)]
theorem DX8_init : ∀ q ∈ tX8_init, decode cX8_init q.1 = .ok (q.2.1, q.2.2) := by decide +kernel
abbrev wsX8_thrown : List Cond := Cond.code yX8_thrown cX8_thrown 1 (some .int) :: gW
theorem eX8_thrown : yX8_thrown.cls ≠ "java/lang/invoke/MethodHandle" ∧ yX8_thrown.cls ≠ "java/lang/invoke/VarHandle" ∧ (parseMethodDescriptor yX8_thrown.desc).map (fun d => d.parameters.length) = some 0 := by decide +kernel
def tX8_thrown : List (Nat × Instr × Nat) := [(0, .aload_n 0, 1), (1, .getfield 78, 3), (4, .ireturn, 1)]
theorem DX8_thrown : ∀ q ∈ tX8_thrown, decode cX8_thrown q.1 = .ok (q.2.1, q.2.2) := by decide +kernel
abbrev wsX8_isVolume : List Cond := Cond.code yX8_isVolume cX8_isVolume 1 (some .boolean) :: gW
theorem eX8_isVolume : yX8_isVolume.cls ≠ "java/lang/invoke/MethodHandle" ∧ yX8_isVolume.cls ≠ "java/lang/invoke/VarHandle" ∧ (parseMethodDescriptor yX8_isVolume.desc).map (fun d => d.parameters.length) = some 1 := by decide +kernel
def tX8_isVolume : List (Nat × Instr × Nat) := [(0, .iload_n 0, 1), (1, .ifCond .eq 8, 3), (4, .iload_n 0, 1), (5, .iconst 1, 1), (6, .if_icmp .ne 7, 3), (9, .iconst 1, 1), (10, .goto 4, 3), (13, .iconst 0, 1), (14, .ireturn, 1)]
theorem DX8_isVolume : ∀ q ∈ tX8_isVolume, decode cX8_isVolume q.1 = .ok (q.2.1, q.2.2) := by decide +kernel
abbrev wsX8_fresh : List Cond := Cond.code yX8_fresh cX8_fresh 4 none :: gW
theorem eX8_fresh : yX8_fresh.cls ≠ "java/lang/invoke/MethodHandle" ∧ yX8_fresh.cls ≠ "java/lang/invoke/VarHandle" ∧ (parseMethodDescriptor yX8_fresh.desc).map (fun d => d.parameters.length) = some 2 := by decide +kernel
def tX8_fresh : List (Nat × Instr × Nat) := [(0, .aload_n 0, 1), (1, .getfield 9, 3), (4, .iload_n 1, 1), (5, .iload_n 2, 1), (6, .iastore, 1), (7, .iconst 0, 1), (8, .istore_n 3, 1), (9, .iload_n 3, 1), (10, .sipush 600, 3), (13, .if_icmp .ge 22, 3), (16, .aload_n 0, 1), (17, .getfield 13, 3), (20, .sipush 600, 3), (23, .iload_n 1, 1), (24, .imul, 1), (25, .iload_n 3, 1), (26, .iadd, 1), (27, .iconst (-1), 1), (28, .iastore, 1), (29, .iinc 3 1, 3), (32, .goto (-23), 3), (35, .aload_n 0, 1), (36, .getfield 30, 3), (39, .bipush 22, 2), (41, .iload_n 1, 1), (42, .imul, 1), (43, .iconst 0, 1), (44, .iadd, 1), (45, .iconst (-1), 1), (46, .iastore, 1), (47, .aload_n 0, 1), (48, .getfield 33, 3), (51, .bipush 22, 2), (53, .iload_n 1, 1), (54, .imul, 1), (55, .iconst 0, 1), (56, .iadd, 1), (57, .iconst 0, 1), (58, .iastore, 1), (59, .aload_n 0, 1), (60, .getfield 36, 3), (63, .iload_n 1, 1), (64, .iconst 1, 1), (65, .iastore, 1), (66, .aload_n 0, 1), (67, .getfield 39, 3), (70, .iload_n 1, 1), (71, .iconst 0, 1), (72, .iastore, 1), (73, .aload_n 0, 1), (74, .getfield 48, 3), (77, .iload_n 1, 1), (78, .iconst 0, 1), (79, .bastore, 1), (80, .aload_n 0, 1), (81, .getfield 54, 3), (84, .iload_n 1, 1), (85, .iconst 0, 1), (86, .iastore, 1), (87, .return_, 1)]
theorem DX8_fresh : ∀ q ∈ tX8_fresh, decode cX8_fresh q.1 = .ok (q.2.1, q.2.2) := by decide +kernel
abbrev wsX8_format : List Cond := Cond.code yX8_format cX8_format 3 none :: gW
theorem eX8_format : yX8_format.cls ≠ "java/lang/invoke/MethodHandle" ∧ yX8_format.cls ≠ "java/lang/invoke/VarHandle" ∧ (parseMethodDescriptor yX8_format.desc).map (fun d => d.parameters.length) = some 2 := by decide +kernel
def tX8_format : List (Nat × Instr × Nat) := [(0, .aload_n 0, 1), (1, .iload_n 1, 1), (2, .invokestatic 82, 3), (5, .ifCond .eq 15, 3), (8, .iload_n 2, 1), (9, .iconst 4, 1), (10, .if_icmp .lt 10, 3), (13, .iload_n 2, 1), (14, .sipush 600, 3), (17, .if_icmp .le 7, 3), (20, .iconst 1, 1), (21, .goto 4, 3), (24, .iconst 0, 1), (25, .putfield 78, 3), (28, .aload_n 0, 1), (29, .getfield 78, 3), (32, .ifCond .ne 9, 3), (35, .aload_n 0, 1), (36, .iload_n 1, 1), (37, .iload_n 2, 1), (38, .invokevirtual 74, 3), (41, .return_, 1)]
theorem DX8_format : ∀ q ∈ tX8_format, decode cX8_format q.1 = .ok (q.2.1, q.2.2) := by decide +kernel
abbrev wsX8_told : List Cond := Cond.code yX8_told cX8_told 3 (some .int) :: gW
theorem eX8_told : yX8_told.cls ≠ "java/lang/invoke/MethodHandle" ∧ yX8_told.cls ≠ "java/lang/invoke/VarHandle" ∧ (parseMethodDescriptor yX8_told.desc).map (fun d => d.parameters.length) = some 2 := by decide +kernel
def tX8_told : List (Nat × Instr × Nat) := [(0, .iload_n 2, 1), (1, .ifCond .ge 19, 3), (4, .aload_n 0, 1), (5, .getfield 30, 3), (8, .bipush 22, 2), (10, .iload_n 1, 1), (11, .imul, 1), (12, .iconst 1, 1), (13, .isub, 1), (14, .iload_n 2, 1), (15, .isub, 1), (16, .iaload, 1), (17, .goto 15, 3), (20, .aload_n 0, 1), (21, .getfield 16, 3), (24, .sipush 4800, 3), (27, .iload_n 1, 1), (28, .imul, 1), (29, .iload_n 2, 1), (30, .iadd, 1), (31, .iaload, 1), (32, .ireturn, 1)]
theorem DX8_told : ∀ q ∈ tX8_told, decode cX8_told q.1 = .ok (q.2.1, q.2.2) := by decide +kernel
abbrev wsX8_born : List Cond := Cond.code yX8_born cX8_born 3 (some .int) :: gW
theorem eX8_born : yX8_born.cls ≠ "java/lang/invoke/MethodHandle" ∧ yX8_born.cls ≠ "java/lang/invoke/VarHandle" ∧ (parseMethodDescriptor yX8_born.desc).map (fun d => d.parameters.length) = some 2 := by decide +kernel
def tX8_born : List (Nat × Instr × Nat) := [(0, .iload_n 2, 1), (1, .ifCond .ge 19, 3), (4, .aload_n 0, 1), (5, .getfield 33, 3), (8, .bipush 22, 2), (10, .iload_n 1, 1), (11, .imul, 1), (12, .iconst 1, 1), (13, .isub, 1), (14, .iload_n 2, 1), (15, .isub, 1), (16, .iaload, 1), (17, .goto 15, 3), (20, .aload_n 0, 1), (21, .getfield 19, 3), (24, .sipush 4800, 3), (27, .iload_n 1, 1), (28, .imul, 1), (29, .iload_n 2, 1), (30, .iadd, 1), (31, .iaload, 1), (32, .ireturn, 1)]
theorem DX8_born : ∀ q ∈ tX8_born, decode cX8_born q.1 = .ok (q.2.1, q.2.2) := by decide +kernel
abbrev wsX8_point : List Cond := Cond.code yX8_point cX8_point 5 none :: gW
theorem eX8_point : yX8_point.cls ≠ "java/lang/invoke/MethodHandle" ∧ yX8_point.cls ≠ "java/lang/invoke/VarHandle" ∧ (parseMethodDescriptor yX8_point.desc).map (fun d => d.parameters.length) = some 4 := by decide +kernel
def tX8_point : List (Nat × Instr × Nat) := [(0, .iload_n 2, 1), (1, .ifCond .ge 35, 3), (4, .aload_n 0, 1), (5, .getfield 30, 3), (8, .bipush 22, 2), (10, .iload_n 1, 1), (11, .imul, 1), (12, .iconst 1, 1), (13, .isub, 1), (14, .iload_n 2, 1), (15, .isub, 1), (16, .iload_n 3, 1), (17, .iastore, 1), (18, .aload_n 0, 1), (19, .getfield 33, 3), (22, .bipush 22, 2), (24, .iload_n 1, 1), (25, .imul, 1), (26, .iconst 1, 1), (27, .isub, 1), (28, .iload_n 2, 1), (29, .isub, 1), (30, .iload 4, 2), (32, .iastore, 1), (33, .goto 30, 3), (36, .aload_n 0, 1), (37, .getfield 16, 3), (40, .sipush 4800, 3), (43, .iload_n 1, 1), (44, .imul, 1), (45, .iload_n 2, 1), (46, .iadd, 1), (47, .iload_n 3, 1), (48, .iastore, 1), (49, .aload_n 0, 1), (50, .getfield 19, 3), (53, .sipush 4800, 3), (56, .iload_n 1, 1), (57, .imul, 1), (58, .iload_n 2, 1), (59, .iadd, 1), (60, .iload 4, 2), (62, .iastore, 1), (63, .return_, 1)]
theorem DX8_point : ∀ q ∈ tX8_point, decode cX8_point q.1 = .ok (q.2.1, q.2.2) := by decide +kernel
abbrev wsX8_turn : List Cond := Cond.code yX8_turn cX8_turn 2 (some .int) :: gW
theorem eX8_turn : yX8_turn.cls ≠ "java/lang/invoke/MethodHandle" ∧ yX8_turn.cls ≠ "java/lang/invoke/VarHandle" ∧ (parseMethodDescriptor yX8_turn.desc).map (fun d => d.parameters.length) = some 2 := by decide +kernel
def tX8_turn : List (Nat × Instr × Nat) := [(0, .iload_n 1, 1), (1, .iconst 1, 1), (2, .if_icmp .ne 10, 3), (5, .iload_n 0, 1), (6, .bipush 64, 2), (8, .idiv, 1), (9, .goto 22, 3), (12, .iload_n 1, 1), (13, .iconst 2, 1), (14, .if_icmp .ne 13, 3), (17, .iload_n 0, 1), (18, .bipush 8, 2), (20, .idiv, 1), (21, .bipush 8, 2), (23, .irem, 1), (24, .goto 7, 3), (27, .iload_n 0, 1), (28, .bipush 8, 2), (30, .irem, 1), (31, .ireturn, 1)]
theorem DX8_turn : ∀ q ∈ tX8_turn, decode cX8_turn q.1 = .ok (q.2.1, q.2.2) := by decide +kernel
abbrev wsX8_isTree : List Cond := Cond.code yX8_isTree cX8_isTree 3 (some .boolean) :: gW
theorem eX8_isTree : yX8_isTree.cls ≠ "java/lang/invoke/MethodHandle" ∧ yX8_isTree.cls ≠ "java/lang/invoke/VarHandle" ∧ (parseMethodDescriptor yX8_isTree.desc).map (fun d => d.parameters.length) = some 2 := by decide +kernel
def tX8_isTree : List (Nat × Instr × Nat) := [(0, .iload_n 2, 1), (1, .ifCond .eq 34, 3), (4, .iload_n 2, 1), (5, .iconst 1, 1), (6, .if_icmp .ne 12, 3), (9, .aload_n 0, 1), (10, .getfield 48, 3), (13, .iload_n 1, 1), (14, .baload, 1), (15, .ifCond .ne 20, 3), (18, .iload_n 2, 1), (19, .iconst 2, 1), (20, .if_icmp .lt 19, 3), (23, .iload_n 2, 1), (24, .iconst 2, 1), (25, .aload_n 0, 1), (26, .getfield 39, 3), (29, .iload_n 1, 1), (30, .iaload, 1), (31, .iadd, 1), (32, .if_icmp .ge 7, 3), (35, .iconst 1, 1), (36, .goto 4, 3), (39, .iconst 0, 1), (40, .ireturn, 1)]
theorem DX8_isTree : ∀ q ∈ tX8_isTree, decode cX8_isTree q.1 = .ok (q.2.1, q.2.2) := by decide +kernel
abbrev wsX8_sweeps : List Cond := Cond.code yX8_sweeps cX8_sweeps 5 none :: gW
theorem eX8_sweeps : yX8_sweeps.cls ≠ "java/lang/invoke/MethodHandle" ∧ yX8_sweeps.cls ≠ "java/lang/invoke/VarHandle" ∧ (parseMethodDescriptor yX8_sweeps.desc).map (fun d => d.parameters.length) = some 1 := by decide +kernel
def tX8_sweeps_0 : List (Nat × Instr × Nat) := [(0, .iconst 0, 1), (1, .istore_n 2, 1), (2, .iload_n 2, 1), (3, .aload_n 0, 1), (4, .getfield 9, 3), (7, .iload_n 1, 1), (8, .iaload, 1), (9, .if_icmp .ge 16, 3), (12, .aload_n 0, 1), (13, .getfield 68, 3), (16, .iload_n 2, 1), (17, .iconst 0, 1), (18, .bastore, 1), (19, .iinc 2 1, 3), (22, .goto (-20), 3), (25, .iconst 0, 1), (26, .istore_n 2, 1), (27, .iload_n 2, 1), (28, .bipush 22, 2), (30, .if_icmp .ge 50, 3), (33, .aload_n 0, 1), (34, .iload_n 1, 1), (35, .iload_n 2, 1), (36, .invokevirtual 86, 3), (39, .ifCond .eq 35, 3), (42, .aload_n 0, 1), (43, .getfield 30, 3), (46, .bipush 22, 2), (48, .iload_n 1, 1), (49, .imul, 1), (50, .iload_n 2, 1), (51, .iadd, 1), (52, .iaload, 1), (53, .iconst (-1), 1), (54, .if_icmp .eq 20, 3), (57, .aload_n 0, 1), (58, .getfield 68, 3), (61, .aload_n 0, 1), (62, .getfield 30, 3), (65, .bipush 22, 2), (67, .iload_n 1, 1), (68, .imul, 1), (69, .iload_n 2, 1), (70, .iadd, 1), (71, .iaload, 1), (72, .iconst 1, 1), (73, .bastore, 1), (74, .iinc 2 1, 3), (77, .goto (-50), 3), (80, .iconst 3, 1), (81, .istore_n 2, 1), (82, .iload_n 2, 1), (83, .ifCond .le 117, 3), (86, .iconst 0, 1), (87, .istore_n 3, 1), (88, .iload_n 3, 1), (89, .aload_n 0, 1), (90, .getfield 9, 3), (93, .iload_n 1, 1), (94, .iaload, 1)]
theorem DX8_sweeps_0 : ∀ q ∈ tX8_sweeps_0, decode cX8_sweeps q.1 = .ok (q.2.1, q.2.2) := by decide +kernel
def tX8_sweeps_1 : List (Nat × Instr × Nat) := [(95, .if_icmp .ge 99, 3), (98, .aload_n 0, 1), (99, .getfield 68, 3), (102, .iload_n 3, 1), (103, .baload, 1), (104, .ifCond .eq 84, 3), (107, .aload_n 0, 1), (108, .getfield 13, 3), (111, .sipush 600, 3), (114, .iload_n 1, 1), (115, .imul, 1), (116, .iload_n 3, 1), (117, .iadd, 1), (118, .iaload, 1), (119, .iload_n 2, 1), (120, .if_icmp .eq 6, 3), (123, .goto 65, 3), (126, .iconst 0, 1), (127, .istore 4, 2), (129, .iload 4, 2), (131, .bipush 8, 2), (133, .if_icmp .ge 55, 3), (136, .aload_n 0, 1), (137, .getfield 16, 3), (140, .sipush 4800, 3), (143, .iload_n 1, 1), (144, .imul, 1), (145, .bipush 8, 2), (147, .iload_n 3, 1), (148, .imul, 1), (149, .iadd, 1), (150, .iload 4, 2), (152, .iadd, 1), (153, .iaload, 1), (154, .iconst (-1), 1), (155, .if_icmp .eq 27, 3), (158, .aload_n 0, 1), (159, .getfield 68, 3), (162, .aload_n 0, 1), (163, .getfield 16, 3), (166, .sipush 4800, 3), (169, .iload_n 1, 1), (170, .imul, 1), (171, .bipush 8, 2), (173, .iload_n 3, 1), (174, .imul, 1), (175, .iadd, 1), (176, .iload 4, 2), (178, .iadd, 1), (179, .iaload, 1), (180, .iconst 1, 1), (181, .bastore, 1), (182, .iinc 4 1, 3), (185, .goto (-56), 3), (188, .iinc 3 1, 3), (191, .goto (-103), 3), (194, .iinc 2 (-1), 3), (197, .goto (-115), 3), (200, .iconst 0, 1), (201, .istore_n 2, 1)]
theorem DX8_sweeps_1 : ∀ q ∈ tX8_sweeps_1, decode cX8_sweeps q.1 = .ok (q.2.1, q.2.2) := by decide +kernel
def tX8_sweeps_2 : List (Nat × Instr × Nat) := [(202, .iload_n 2, 1), (203, .aload_n 0, 1), (204, .getfield 9, 3), (207, .iload_n 1, 1), (208, .iaload, 1), (209, .if_icmp .ge 31, 3), (212, .aload_n 0, 1), (213, .getfield 68, 3), (216, .iload_n 2, 1), (217, .baload, 1), (218, .ifCond .ne 16, 3), (221, .aload_n 0, 1), (222, .getfield 13, 3), (225, .sipush 600, 3), (228, .iload_n 1, 1), (229, .imul, 1), (230, .iload_n 2, 1), (231, .iadd, 1), (232, .iconst (-1), 1), (233, .iastore, 1), (234, .iinc 2 1, 3), (237, .goto (-35), 3), (240, .return_, 1)]
theorem DX8_sweeps_2 : ∀ q ∈ tX8_sweeps_2, decode cX8_sweeps q.1 = .ok (q.2.1, q.2.2) := by decide +kernel
def tX8_sweeps : List (Nat × Instr × Nat) := tX8_sweeps_0 ++ (tX8_sweeps_1 ++ (tX8_sweeps_2))
theorem DX8_sweeps : ∀ q ∈ tX8_sweeps, decode cX8_sweeps q.1 = .ok (q.2.1, q.2.2) := (fun q h => (List.mem_append.mp h).elim (DX8_sweeps_0 q) ((fun q h => (List.mem_append.mp h).elim (DX8_sweeps_1 q) (DX8_sweeps_2 q)) q))
abbrev wsX8_begins : List Cond := Cond.code yX8_begins cX8_begins 3 none :: gW
theorem eX8_begins : yX8_begins.cls ≠ "java/lang/invoke/MethodHandle" ∧ yX8_begins.cls ≠ "java/lang/invoke/VarHandle" ∧ (parseMethodDescriptor yX8_begins.desc).map (fun d => d.parameters.length) = some 1 := by decide +kernel
def tX8_begins : List (Nat × Instr × Nat) := [(0, .iconst 0, 1), (1, .istore_n 2, 1), (2, .iload_n 2, 1), (3, .aload_n 0, 1), (4, .getfield 9, 3), (7, .iload_n 1, 1), (8, .iaload, 1), (9, .if_icmp .ge 42, 3), (12, .aload_n 0, 1), (13, .getfield 26, 3), (16, .sipush 600, 3), (19, .iload_n 1, 1), (20, .imul, 1), (21, .iload_n 2, 1), (22, .iadd, 1), (23, .aload_n 0, 1), (24, .getfield 13, 3), (27, .sipush 600, 3), (30, .iload_n 1, 1), (31, .imul, 1), (32, .iload_n 2, 1), (33, .iadd, 1), (34, .iaload, 1), (35, .iconst (-1), 1), (36, .if_icmp .ne 7, 3), (39, .iconst 1, 1), (40, .goto 4, 3), (43, .iconst 0, 1), (44, .bastore, 1), (45, .iinc 2 1, 3), (48, .goto (-46), 3), (51, .return_, 1)]
theorem DX8_begins : ∀ q ∈ tX8_begins, decode cX8_begins q.1 = .ok (q.2.1, q.2.2) := by decide +kernel
abbrev wsX8_freeMany : List Cond := Cond.code yX8_freeMany cX8_freeMany 4 (some .int) :: gW
theorem eX8_freeMany : yX8_freeMany.cls ≠ "java/lang/invoke/MethodHandle" ∧ yX8_freeMany.cls ≠ "java/lang/invoke/VarHandle" ∧ (parseMethodDescriptor yX8_freeMany.desc).map (fun d => d.parameters.length) = some 1 := by decide +kernel
def tX8_freeMany : List (Nat × Instr × Nat) := [(0, .iconst 0, 1), (1, .istore_n 2, 1), (2, .iconst 0, 1), (3, .istore_n 3, 1), (4, .iload_n 3, 1), (5, .aload_n 0, 1), (6, .getfield 9, 3), (9, .iload_n 1, 1), (10, .iaload, 1), (11, .if_icmp .ge 32, 3), (14, .iload_n 2, 1), (15, .aload_n 0, 1), (16, .getfield 26, 3), (19, .sipush 600, 3), (22, .iload_n 1, 1), (23, .imul, 1), (24, .iload_n 3, 1), (25, .iadd, 1), (26, .baload, 1), (27, .ifCond .eq 7, 3), (30, .iconst 1, 1), (31, .goto 4, 3), (34, .iconst 0, 1), (35, .iadd, 1), (36, .istore_n 2, 1), (37, .iinc 3 1, 3), (40, .goto (-36), 3), (43, .iload_n 2, 1), (44, .ireturn, 1)]
theorem DX8_freeMany : ∀ q ∈ tX8_freeMany, decode cX8_freeMany q.1 = .ok (q.2.1, q.2.2) := by decide +kernel
abbrev wsX8_take : List Cond := Cond.code yX8_take cX8_take 4 (some .int) :: gW
theorem eX8_take : yX8_take.cls ≠ "java/lang/invoke/MethodHandle" ∧ yX8_take.cls ≠ "java/lang/invoke/VarHandle" ∧ (parseMethodDescriptor yX8_take.desc).map (fun d => d.parameters.length) = some 2 := by decide +kernel
def tX8_take : List (Nat × Instr × Nat) := [(0, .iconst 0, 1), (1, .istore_n 3, 1), (2, .aload_n 0, 1), (3, .getfield 26, 3), (6, .sipush 600, 3), (9, .iload_n 1, 1), (10, .imul, 1), (11, .iload_n 3, 1), (12, .iadd, 1), (13, .baload, 1), (14, .ifCond .ne 9, 3), (17, .iinc 3 1, 3), (20, .goto (-18), 3), (23, .aload_n 0, 1), (24, .getfield 26, 3), (27, .sipush 600, 3), (30, .iload_n 1, 1), (31, .imul, 1), (32, .iload_n 3, 1), (33, .iadd, 1), (34, .iconst 0, 1), (35, .bastore, 1), (36, .aload_n 0, 1), (37, .getfield 13, 3), (40, .sipush 600, 3), (43, .iload_n 1, 1), (44, .imul, 1), (45, .iload_n 3, 1), (46, .iadd, 1), (47, .iload_n 2, 1), (48, .iastore, 1), (49, .iload_n 3, 1), (50, .ireturn, 1)]
theorem DX8_take : ∀ q ∈ tX8_take, decode cX8_take q.1 = .ok (q.2.1, q.2.2) := by decide +kernel
abbrev wsX8_ways : List Cond := Cond.code yX8_ways cX8_ways 5 (some .int) :: gW
theorem eX8_ways : yX8_ways.cls ≠ "java/lang/invoke/MethodHandle" ∧ yX8_ways.cls ≠ "java/lang/invoke/VarHandle" ∧ (parseMethodDescriptor yX8_ways.desc).map (fun d => d.parameters.length) = some 3 := by decide +kernel
def tX8_ways : List (Nat × Instr × Nat) := [(0, .aload_n 0, 1), (1, .getfield 71, 3), (4, .iconst 0, 1), (5, .iconst (-1), 1), (6, .iload_n 2, 1), (7, .isub, 1), (8, .iastore, 1), (9, .iconst 1, 1), (10, .istore 4, 2), (12, .iload 4, 2), (14, .iconst 4, 1), (15, .if_icmp .ge 58, 3), (18, .aload_n 0, 1), (19, .iload_n 1, 1), (20, .aload_n 0, 1), (21, .getfield 71, 3), (24, .iload 4, 2), (26, .iconst 1, 1), (27, .isub, 1), (28, .iaload, 1), (29, .invokevirtual 90, 3), (32, .iconst (-1), 1), (33, .if_icmp .eq 40, 3), (36, .aload_n 0, 1), (37, .getfield 71, 3), (40, .iload 4, 2), (42, .bipush 8, 2), (44, .aload_n 0, 1), (45, .iload_n 1, 1), (46, .aload_n 0, 1), (47, .getfield 71, 3), (50, .iload 4, 2), (52, .iconst 1, 1), (53, .isub, 1), (54, .iaload, 1), (55, .invokevirtual 90, 3), (58, .imul, 1), (59, .iload_n 3, 1), (60, .iload 4, 2), (62, .invokestatic 94, 3), (65, .iadd, 1), (66, .iastore, 1), (67, .iinc 4 1, 3), (70, .goto (-58), 3), (73, .iload 4, 2), (75, .ireturn, 1)]
theorem DX8_ways : ∀ q ∈ tX8_ways, decode cX8_ways q.1 = .ok (q.2.1, q.2.2) := by decide +kernel
abbrev wsX8_wanted : List Cond := Cond.code yX8_wanted cX8_wanted 6 (some .int) :: gW
theorem eX8_wanted : yX8_wanted.cls ≠ "java/lang/invoke/MethodHandle" ∧ yX8_wanted.cls ≠ "java/lang/invoke/VarHandle" ∧ (parseMethodDescriptor yX8_wanted.desc).map (fun d => d.parameters.length) = some 3 := by decide +kernel
def tX8_wanted : List (Nat × Instr × Nat) := [(0, .iconst 0, 1), (1, .istore 4, 2), (3, .iconst 0, 1), (4, .istore 5, 2), (6, .iload 5, 2), (8, .iload_n 3, 1), (9, .if_icmp .ge 62, 3), (12, .iload 4, 2), (14, .iload 5, 2), (16, .iload_n 2, 1), (17, .if_icmp .ge 40, 3), (20, .aload_n 0, 1), (21, .iload_n 1, 1), (22, .aload_n 0, 1), (23, .getfield 71, 3), (26, .iload 5, 2), (28, .iaload, 1), (29, .invokevirtual 90, 3), (32, .iconst (-1), 1), (33, .if_icmp .eq 24, 3), (36, .aload_n 0, 1), (37, .iload_n 1, 1), (38, .aload_n 0, 1), (39, .getfield 71, 3), (42, .iload 5, 2), (44, .iaload, 1), (45, .invokevirtual 97, 3), (48, .aload_n 0, 1), (49, .getfield 36, 3), (52, .iload_n 1, 1), (53, .iaload, 1), (54, .if_icmp .eq 7, 3), (57, .iconst 1, 1), (58, .goto 4, 3), (61, .iconst 0, 1), (62, .iadd, 1), (63, .istore 4, 2), (65, .iinc 5 1, 3), (68, .goto (-62), 3), (71, .iload 4, 2), (73, .ireturn, 1)]
theorem DX8_wanted : ∀ q ∈ tX8_wanted, decode cX8_wanted q.1 = .ok (q.2.1, q.2.2) := by decide +kernel
abbrev wsX8_renews : List Cond := Cond.code yX8_renews cX8_renews 11 none :: gW
theorem eX8_renews : yX8_renews.cls ≠ "java/lang/invoke/MethodHandle" ∧ yX8_renews.cls ≠ "java/lang/invoke/VarHandle" ∧ (parseMethodDescriptor yX8_renews.desc).map (fun d => d.parameters.length) = some 4 := by decide +kernel
def tX8_renews : List (Nat × Instr × Nat) := [(0, .iconst (-1), 1), (1, .iload_n 2, 1), (2, .isub, 1), (3, .istore 5, 2), (5, .iconst 0, 1), (6, .istore 6, 2), (8, .iload 6, 2), (10, .iload 4, 2), (12, .if_icmp .ge 179, 3), (15, .aload_n 0, 1), (16, .iload_n 1, 1), (17, .iload 5, 2), (19, .invokevirtual 90, 3), (22, .istore 7, 2), (24, .aload_n 0, 1), (25, .iload_n 1, 1), (26, .iload 5, 2), (28, .invokevirtual 97, 3), (31, .istore 8, 2), (33, .iload 7, 2), (35, .iconst (-1), 1), (36, .if_icmp .eq 14, 3), (39, .iload 8, 2), (41, .aload_n 0, 1), (42, .getfield 36, 3), (45, .iload_n 1, 1), (46, .iaload, 1), (47, .if_icmp .eq 111, 3), (50, .aload_n 0, 1), (51, .iload_n 1, 1), (52, .iconst 3, 1), (53, .iload 6, 2), (55, .isub, 1), (56, .invokevirtual 100, 3), (59, .istore 9, 2), (61, .iconst 0, 1), (62, .istore 10, 2), (64, .iload 10, 2), (66, .bipush 8, 2), (68, .if_icmp .ge 75, 3), (71, .iload 6, 2), (73, .iconst 3, 1), (74, .if_icmp .ge 69, 3), (77, .aload_n 0, 1), (78, .iload_n 1, 1), (79, .bipush 8, 2), (81, .iload 9, 2), (83, .imul, 1), (84, .iload 10, 2), (86, .iadd, 1), (87, .iload 7, 2), (89, .iconst (-1), 1), (90, .if_icmp .ne 7, 3), (93, .iconst (-1), 1), (94, .goto 16, 3), (97, .aload_n 0, 1), (98, .iload_n 1, 1), (99, .bipush 8, 2), (101, .iload 7, 2), (103, .imul, 1), (104, .iload 10, 2), (106, .iadd, 1), (107, .invokevirtual 90, 3), (110, .iload 7, 2), (112, .iconst (-1), 1), (113, .if_icmp .ne 8, 3), (116, .iload 8, 2), (118, .goto 16, 3), (121, .aload_n 0, 1), (122, .iload_n 1, 1), (123, .bipush 8, 2), (125, .iload 7, 2), (127, .imul, 1), (128, .iload 10, 2), (130, .iadd, 1), (131, .invokevirtual 97, 3), (134, .invokevirtual 103, 3), (137, .iinc 10 1, 3), (140, .goto (-76), 3), (143, .aload_n 0, 1), (144, .iload_n 1, 1), (145, .iload 5, 2), (147, .iload 9, 2), (149, .aload_n 0, 1), (150, .getfield 36, 3), (153, .iload_n 1, 1), (154, .iaload, 1), (155, .invokevirtual 103, 3), (158, .iload 6, 2), (160, .iconst 3, 1), (161, .if_icmp .ge 24, 3), (164, .bipush 8, 2), (166, .aload_n 0, 1), (167, .iload_n 1, 1), (168, .iload 5, 2), (170, .invokevirtual 90, 3), (173, .imul, 1), (174, .iload_n 3, 1), (175, .iload 6, 2), (177, .iconst 1, 1), (178, .iadd, 1), (179, .invokestatic 94, 3), (182, .iadd, 1), (183, .istore 5, 2), (185, .iinc 6 1, 3), (188, .goto (-180), 3), (191, .return_, 1)]
theorem DX8_renews : ∀ q ∈ tX8_renews, decode cX8_renews q.1 = .ok (q.2.1, q.2.2) := by decide +kernel
abbrev wsX8_writes : List Cond := Cond.code yX8_writes cX8_writes 7 (some .int) :: gW
theorem eX8_writes : yX8_writes.cls ≠ "java/lang/invoke/MethodHandle" ∧ yX8_writes.cls ≠ "java/lang/invoke/VarHandle" ∧ (parseMethodDescriptor yX8_writes.desc).map (fun d => d.parameters.length) = some 4 := by decide +kernel
def tX8_writes : List (Nat × Instr × Nat) := [(0, .aload_n 0, 1), (1, .iload_n 1, 1), (2, .iload_n 2, 1), (3, .iload_n 3, 1), (4, .invokevirtual 107, 3), (7, .istore 6, 2), (9, .aload_n 0, 1), (10, .iload_n 1, 1), (11, .iload 6, 2), (13, .iconst 4, 1), (14, .invokevirtual 111, 3), (17, .aload_n 0, 1), (18, .iload_n 1, 1), (19, .invokevirtual 114, 3), (22, .if_icmp .le 5, 3), (25, .iconst 5, 1), (26, .ireturn, 1), (27, .aload_n 0, 1), (28, .iload_n 1, 1), (29, .iload_n 2, 1), (30, .iload_n 3, 1), (31, .iconst 4, 1), (32, .invokevirtual 118, 3), (35, .aload_n 0, 1), (36, .iload_n 1, 1), (37, .iload_n 2, 1), (38, .iload_n 3, 1), (39, .invokevirtual 107, 3), (42, .pop, 1), (43, .aload_n 0, 1), (44, .getfield 22, 3), (47, .sipush 600, 3), (50, .iload_n 1, 1), (51, .imul, 1), (52, .aload_n 0, 1), (53, .iload_n 1, 1), (54, .aload_n 0, 1), (55, .getfield 71, 3), (58, .iconst 3, 1), (59, .iaload, 1), (60, .invokevirtual 90, 3), (63, .iadd, 1), (64, .lload 4, 2), (66, .lastore, 1), (67, .iconst 0, 1), (68, .ireturn, 1)]
theorem DX8_writes : ∀ q ∈ tX8_writes, decode cX8_writes q.1 = .ok (q.2.1, q.2.2) := by decide +kernel
abbrev wsX8_hasNothing : List Cond := Cond.code yX8_hasNothing cX8_hasNothing 4 (some .boolean) :: gW
theorem eX8_hasNothing : yX8_hasNothing.cls ≠ "java/lang/invoke/MethodHandle" ∧ yX8_hasNothing.cls ≠ "java/lang/invoke/VarHandle" ∧ (parseMethodDescriptor yX8_hasNothing.desc).map (fun d => d.parameters.length) = some 2 := by decide +kernel
def tX8_hasNothing : List (Nat × Instr × Nat) := [(0, .iconst 0, 1), (1, .istore_n 3, 1), (2, .iload_n 3, 1), (3, .bipush 8, 2), (5, .if_icmp .ge 26, 3), (8, .aload_n 0, 1), (9, .iload_n 1, 1), (10, .bipush 8, 2), (12, .iload_n 2, 1), (13, .imul, 1), (14, .iload_n 3, 1), (15, .iadd, 1), (16, .invokevirtual 90, 3), (19, .iconst (-1), 1), (20, .if_icmp .eq 5, 3), (23, .iconst 0, 1), (24, .ireturn, 1), (25, .iinc 3 1, 3), (28, .goto (-26), 3), (31, .iconst 1, 1), (32, .ireturn, 1)]
theorem DX8_hasNothing : ∀ q ∈ tX8_hasNothing, decode cX8_hasNothing q.1 = .ok (q.2.1, q.2.2) := by decide +kernel
abbrev wsX8_clears : List Cond := Cond.code yX8_clears cX8_clears 6 (some .int) :: gW
theorem eX8_clears : yX8_clears.cls ≠ "java/lang/invoke/MethodHandle" ∧ yX8_clears.cls ≠ "java/lang/invoke/VarHandle" ∧ (parseMethodDescriptor yX8_clears.desc).map (fun d => d.parameters.length) = some 3 := by decide +kernel
def tX8_clears : List (Nat × Instr × Nat) := [(0, .aload_n 0, 1), (1, .iload_n 1, 1), (2, .iload_n 2, 1), (3, .iload_n 3, 1), (4, .invokevirtual 107, 3), (7, .istore 4, 2), (9, .iload 4, 2), (11, .iconst 4, 1), (12, .if_icmp .lt 18, 3), (15, .aload_n 0, 1), (16, .iload_n 1, 1), (17, .aload_n 0, 1), (18, .getfield 71, 3), (21, .iconst 3, 1), (22, .iaload, 1), (23, .invokevirtual 90, 3), (26, .iconst (-1), 1), (27, .if_icmp .ne 5, 3), (30, .iconst 0, 1), (31, .ireturn, 1), (32, .aload_n 0, 1), (33, .iload_n 1, 1), (34, .iconst 4, 1), (35, .iconst 3, 1), (36, .invokevirtual 111, 3), (39, .aload_n 0, 1), (40, .iload_n 1, 1), (41, .invokevirtual 114, 3), (44, .if_icmp .le 5, 3), (47, .iconst 5, 1), (48, .ireturn, 1), (49, .aload_n 0, 1), (50, .iload_n 1, 1), (51, .iload_n 2, 1), (52, .iload_n 3, 1), (53, .iconst 3, 1), (54, .invokevirtual 118, 3), (57, .aload_n 0, 1), (58, .iload_n 1, 1), (59, .iload_n 2, 1), (60, .iload_n 3, 1), (61, .invokevirtual 107, 3), (64, .pop, 1), (65, .aload_n 0, 1), (66, .iload_n 1, 1), (67, .aload_n 0, 1), (68, .getfield 71, 3), (71, .iconst 3, 1), (72, .iaload, 1), (73, .iconst (-1), 1), (74, .aload_n 0, 1), (75, .getfield 36, 3), (78, .iload_n 1, 1), (79, .iaload, 1), (80, .invokevirtual 103, 3), (83, .iconst 2, 1), (84, .istore 5, 2), (86, .iload 5, 2), (88, .ifCond .lt 48, 3), (91, .aload_n 0, 1), (92, .iload_n 1, 1), (93, .aload_n 0, 1), (94, .iload_n 1, 1), (95, .aload_n 0, 1), (96, .getfield 71, 3), (99, .iload 5, 2), (101, .iaload, 1), (102, .invokevirtual 90, 3), (105, .invokevirtual 121, 3), (108, .ifCond .eq 28, 3), (111, .aload_n 0, 1), (112, .iload_n 1, 1), (113, .aload_n 0, 1), (114, .getfield 71, 3), (117, .iload 5, 2), (119, .iaload, 1), (120, .iconst (-1), 1), (121, .aload_n 0, 1), (122, .getfield 36, 3), (125, .iload_n 1, 1), (126, .iaload, 1), (127, .invokevirtual 103, 3), (130, .iinc 5 (-1), 3), (133, .goto (-47), 3), (136, .iconst 0, 1), (137, .ireturn, 1)]
theorem DX8_clears : ∀ q ∈ tX8_clears, decode cX8_clears q.1 = .ok (q.2.1, q.2.2) := by decide +kernel
abbrev wsX8_isPlace : List Cond := Cond.code yX8_isPlace cX8_isPlace 1 (some .boolean) :: gW
theorem eX8_isPlace : yX8_isPlace.cls ≠ "java/lang/invoke/MethodHandle" ∧ yX8_isPlace.cls ≠ "java/lang/invoke/VarHandle" ∧ (parseMethodDescriptor yX8_isPlace.desc).map (fun d => d.parameters.length) = some 1 := by decide +kernel
def tX8_isPlace : List (Nat × Instr × Nat) := [(0, .iload_n 0, 1), (1, .ifCond .lt 14, 3), (4, .iload_n 0, 1), (5, .sipush 512, 3), (8, .if_icmp .ge 7, 3), (11, .iconst 1, 1), (12, .goto 4, 3), (15, .iconst 0, 1), (16, .ireturn, 1)]
theorem DX8_isPlace : ∀ q ∈ tX8_isPlace, decode cX8_isPlace q.1 = .ok (q.2.1, q.2.2) := by decide +kernel
abbrev wsX8_write : List Cond := Cond.code yX8_write cX8_write 6 (some .int) :: gW
theorem eX8_write : yX8_write.cls ≠ "java/lang/invoke/MethodHandle" ∧ yX8_write.cls ≠ "java/lang/invoke/VarHandle" ∧ (parseMethodDescriptor yX8_write.desc).map (fun d => d.parameters.length) = some 3 := by decide +kernel
def tX8_write : List (Nat × Instr × Nat) := [(0, .aload_n 0, 1), (1, .iload_n 1, 1), (2, .invokestatic 82, 3), (5, .ifCond .eq 10, 3), (8, .iload_n 2, 1), (9, .invokestatic 124, 3), (12, .ifCond .ne 7, 3), (15, .iconst 1, 1), (16, .goto 4, 3), (19, .iconst 0, 1), (20, .putfield 78, 3), (23, .aload_n 0, 1), (24, .getfield 78, 3), (27, .ifCond .le 5, 3), (30, .iconst 0, 1), (31, .ireturn, 1), (32, .aload_n 0, 1), (33, .getfield 48, 3), (36, .iload_n 1, 1), (37, .baload, 1), (38, .ifCond .eq 6, 3), (41, .bipush 6, 2), (43, .ireturn, 1), (44, .aload_n 0, 1), (45, .iload_n 1, 1), (46, .invokevirtual 127, 3), (49, .aload_n 0, 1), (50, .iload_n 1, 1), (51, .iconst 0, 1), (52, .iload_n 2, 1), (53, .lload_n 3, 1), (54, .invokevirtual 131, 3), (57, .istore 5, 2), (59, .aload_n 0, 1), (60, .iload_n 1, 1), (61, .invokevirtual 135, 3), (64, .iload 5, 2), (66, .ireturn, 1)]
theorem DX8_write : ∀ q ∈ tX8_write, decode cX8_write q.1 = .ok (q.2.1, q.2.2) := by decide +kernel
abbrev wsX8_clear : List Cond := Cond.code yX8_clear cX8_clear 4 (some .int) :: gW
theorem eX8_clear : yX8_clear.cls ≠ "java/lang/invoke/MethodHandle" ∧ yX8_clear.cls ≠ "java/lang/invoke/VarHandle" ∧ (parseMethodDescriptor yX8_clear.desc).map (fun d => d.parameters.length) = some 2 := by decide +kernel
def tX8_clear : List (Nat × Instr × Nat) := [(0, .aload_n 0, 1), (1, .iload_n 1, 1), (2, .invokestatic 82, 3), (5, .ifCond .eq 10, 3), (8, .iload_n 2, 1), (9, .invokestatic 124, 3), (12, .ifCond .ne 7, 3), (15, .iconst 1, 1), (16, .goto 4, 3), (19, .iconst 0, 1), (20, .putfield 78, 3), (23, .aload_n 0, 1), (24, .getfield 78, 3), (27, .ifCond .le 5, 3), (30, .iconst 0, 1), (31, .ireturn, 1), (32, .aload_n 0, 1), (33, .getfield 48, 3), (36, .iload_n 1, 1), (37, .baload, 1), (38, .ifCond .eq 6, 3), (41, .bipush 6, 2), (43, .ireturn, 1), (44, .aload_n 0, 1), (45, .iload_n 1, 1), (46, .invokevirtual 127, 3), (49, .aload_n 0, 1), (50, .iload_n 1, 1), (51, .iconst 0, 1), (52, .iload_n 2, 1), (53, .invokevirtual 138, 3), (56, .istore_n 3, 1), (57, .aload_n 0, 1), (58, .iload_n 1, 1), (59, .invokevirtual 135, 3), (62, .iload_n 3, 1), (63, .ireturn, 1)]
theorem DX8_clear : ∀ q ∈ tX8_clear, decode cX8_clear q.1 = .ok (q.2.1, q.2.2) := by decide +kernel
abbrev wsX8_isSnap : List Cond := Cond.code yX8_isSnap cX8_isSnap 3 (some .boolean) :: gW
theorem eX8_isSnap : yX8_isSnap.cls ≠ "java/lang/invoke/MethodHandle" ∧ yX8_isSnap.cls ≠ "java/lang/invoke/VarHandle" ∧ (parseMethodDescriptor yX8_isSnap.desc).map (fun d => d.parameters.length) = some 2 := by decide +kernel
def tX8_isSnap : List (Nat × Instr × Nat) := [(0, .iload_n 2, 1), (1, .ifCond .lt 17, 3), (4, .iload_n 2, 1), (5, .aload_n 0, 1), (6, .getfield 39, 3), (9, .iload_n 1, 1), (10, .iaload, 1), (11, .if_icmp .ge 7, 3), (14, .iconst 1, 1), (15, .goto 4, 3), (18, .iconst 0, 1), (19, .ireturn, 1)]
theorem DX8_isSnap : ∀ q ∈ tX8_isSnap, decode cX8_isSnap q.1 = .ok (q.2.1, q.2.2) := by decide +kernel
abbrev wsX8_read : List Cond := Cond.code yX8_read cX8_read 5 (some .long) :: gW
theorem eX8_read : yX8_read.cls ≠ "java/lang/invoke/MethodHandle" ∧ yX8_read.cls ≠ "java/lang/invoke/VarHandle" ∧ (parseMethodDescriptor yX8_read.desc).map (fun d => d.parameters.length) = some 3 := by decide +kernel
def tX8_read : List (Nat × Instr × Nat) := [(0, .aload_n 0, 1), (1, .iload_n 1, 1), (2, .invokestatic 82, 3), (5, .ifCond .eq 10, 3), (8, .iload_n 3, 1), (9, .invokestatic 124, 3), (12, .ifCond .ne 7, 3), (15, .iconst 1, 1), (16, .goto 22, 3), (19, .iload_n 2, 1), (20, .iconst (-1), 1), (21, .if_icmp .eq 16, 3), (24, .aload_n 0, 1), (25, .iload_n 1, 1), (26, .iload_n 2, 1), (27, .invokevirtual 141, 3), (30, .ifCond .ne 7, 3), (33, .iconst 2, 1), (34, .goto 4, 3), (37, .iconst 0, 1), (38, .putfield 78, 3), (41, .aload_n 0, 1), (42, .getfield 78, 3), (45, .ifCond .le 5, 3), (48, .lconst 0, 1), (49, .lreturn, 1), (50, .aload_n 0, 1), (51, .iload_n 1, 1), (52, .iload_n 2, 1), (53, .iconst (-1), 1), (54, .if_icmp .ne 7, 3), (57, .iconst 0, 1), (58, .goto 6, 3), (61, .iconst 2, 1), (62, .iload_n 2, 1), (63, .iadd, 1), (64, .iload_n 3, 1), (65, .invokevirtual 107, 3), (68, .istore 4, 2), (70, .iload 4, 2), (72, .iconst 4, 1), (73, .if_icmp .lt 18, 3), (76, .aload_n 0, 1), (77, .iload_n 1, 1), (78, .aload_n 0, 1), (79, .getfield 71, 3), (82, .iconst 3, 1), (83, .iaload, 1), (84, .invokevirtual 90, 3), (87, .iconst (-1), 1), (88, .if_icmp .ne 7, 3), (91, .lconst 0, 1), (92, .goto 25, 3), (95, .aload_n 0, 1), (96, .getfield 22, 3), (99, .sipush 600, 3), (102, .iload_n 1, 1), (103, .imul, 1), (104, .aload_n 0, 1), (105, .iload_n 1, 1), (106, .aload_n 0, 1), (107, .getfield 71, 3), (110, .iconst 3, 1), (111, .iaload, 1), (112, .invokevirtual 90, 3), (115, .iadd, 1), (116, .laload, 1), (117, .lreturn, 1)]
theorem DX8_read : ∀ q ∈ tX8_read, decode cX8_read q.1 = .ok (q.2.1, q.2.2) := by decide +kernel
abbrev wsX8_snaps : List Cond := Cond.code yX8_snaps cX8_snaps 6 none :: gW
theorem eX8_snaps : yX8_snaps.cls ≠ "java/lang/invoke/MethodHandle" ∧ yX8_snaps.cls ≠ "java/lang/invoke/VarHandle" ∧ (parseMethodDescriptor yX8_snaps.desc).map (fun d => d.parameters.length) = some 3 := by decide +kernel
def tX8_snaps : List (Nat × Instr × Nat) := [(0, .aload_n 0, 1), (1, .getfield 39, 3), (4, .iload_n 1, 1), (5, .iaload, 1), (6, .istore 5, 2), (8, .aload_n 0, 1), (9, .getfield 30, 3), (12, .bipush 22, 2), (14, .iload_n 1, 1), (15, .imul, 1), (16, .iconst 2, 1), (17, .iadd, 1), (18, .iload 5, 2), (20, .iadd, 1), (21, .aload_n 0, 1), (22, .getfield 30, 3), (25, .bipush 22, 2), (27, .iload_n 1, 1), (28, .imul, 1), (29, .iload_n 2, 1), (30, .iadd, 1), (31, .iaload, 1), (32, .iastore, 1), (33, .aload_n 0, 1), (34, .getfield 33, 3), (37, .bipush 22, 2), (39, .iload_n 1, 1), (40, .imul, 1), (41, .iconst 2, 1), (42, .iadd, 1), (43, .iload 5, 2), (45, .iadd, 1), (46, .aload_n 0, 1), (47, .getfield 33, 3), (50, .bipush 22, 2), (52, .iload_n 1, 1), (53, .imul, 1), (54, .iload_n 2, 1), (55, .iadd, 1), (56, .iaload, 1), (57, .iastore, 1), (58, .aload_n 0, 1), (59, .getfield 42, 3), (62, .bipush 20, 2), (64, .iload_n 1, 1), (65, .imul, 1), (66, .iload 5, 2), (68, .iadd, 1), (69, .aload_n 0, 1), (70, .getfield 36, 3), (73, .iload_n 1, 1), (74, .iaload, 1), (75, .iastore, 1), (76, .aload_n 0, 1), (77, .getfield 45, 3), (80, .bipush 20, 2), (82, .iload_n 1, 1), (83, .imul, 1), (84, .iload 5, 2), (86, .iadd, 1), (87, .lload_n 3, 1), (88, .lastore, 1), (89, .aload_n 0, 1), (90, .getfield 39, 3), (93, .iload_n 1, 1), (94, .dup2, 1), (95, .iaload, 1), (96, .iconst 1, 1), (97, .iadd, 1), (98, .iastore, 1), (99, .aload_n 0, 1), (100, .getfield 36, 3), (103, .iload_n 1, 1), (104, .dup2, 1), (105, .iaload, 1), (106, .iconst 1, 1), (107, .iadd, 1), (108, .iastore, 1), (109, .return_, 1)]
theorem DX8_snaps : ∀ q ∈ tX8_snaps, decode cX8_snaps q.1 = .ok (q.2.1, q.2.2) := by decide +kernel
abbrev wsX8_snapshot : List Cond := Cond.code yX8_snapshot cX8_snapshot 2 (some .int) :: gW
theorem eX8_snapshot : yX8_snapshot.cls ≠ "java/lang/invoke/MethodHandle" ∧ yX8_snapshot.cls ≠ "java/lang/invoke/VarHandle" ∧ (parseMethodDescriptor yX8_snapshot.desc).map (fun d => d.parameters.length) = some 1 := by decide +kernel
def tX8_snapshot : List (Nat × Instr × Nat) := [(0, .aload_n 0, 1), (1, .iload_n 1, 1), (2, .invokestatic 82, 3), (5, .ifCond .ne 7, 3), (8, .iconst 1, 1), (9, .goto 32, 3), (12, .aload_n 0, 1), (13, .getfield 48, 3), (16, .iload_n 1, 1), (17, .baload, 1), (18, .ifCond .eq 7, 3), (21, .iconst 2, 1), (22, .goto 19, 3), (25, .aload_n 0, 1), (26, .getfield 39, 3), (29, .iload_n 1, 1), (30, .iaload, 1), (31, .bipush 20, 2), (33, .if_icmp .ne 7, 3), (36, .iconst 3, 1), (37, .goto 4, 3), (40, .iconst 0, 1), (41, .putfield 78, 3), (44, .aload_n 0, 1), (45, .getfield 78, 3), (48, .ifCond .le 5, 3), (51, .iconst 0, 1), (52, .ireturn, 1), (53, .aload_n 0, 1), (54, .iload_n 1, 1), (55, .iconst 0, 1), (56, .aload_n 0, 1), (57, .getfield 60, 3), (60, .invokevirtual 144, 3), (63, .aload_n 0, 1), (64, .dup, 1), (65, .getfield 60, 3), (68, .lconst 1, 1), (69, .ladd, 1), (70, .putfield 60, 3), (73, .aload_n 0, 1), (74, .getfield 39, 3), (77, .iload_n 1, 1), (78, .iaload, 1), (79, .iconst 1, 1), (80, .isub, 1), (81, .ireturn, 1)]
theorem DX8_snapshot : ∀ q ∈ tX8_snapshot, decode cX8_snapshot q.1 = .ok (q.2.1, q.2.2) := by decide +kernel
abbrev wsX8_destroy : List Cond := Cond.code yX8_destroy cX8_destroy 4 (some .int) :: gW
theorem eX8_destroy : yX8_destroy.cls ≠ "java/lang/invoke/MethodHandle" ∧ yX8_destroy.cls ≠ "java/lang/invoke/VarHandle" ∧ (parseMethodDescriptor yX8_destroy.desc).map (fun d => d.parameters.length) = some 2 := by decide +kernel
def tX8_destroy_0 : List (Nat × Instr × Nat) := [(0, .aload_n 0, 1), (1, .iload_n 1, 1), (2, .invokestatic 82, 3), (5, .ifCond .ne 7, 3), (8, .iconst 1, 1), (9, .goto 30, 3), (12, .aload_n 0, 1), (13, .getfield 48, 3), (16, .iload_n 1, 1), (17, .baload, 1), (18, .ifCond .eq 7, 3), (21, .iconst 2, 1), (22, .goto 17, 3), (25, .aload_n 0, 1), (26, .iload_n 1, 1), (27, .iload_n 2, 1), (28, .invokevirtual 141, 3), (31, .ifCond .ne 7, 3), (34, .iconst 3, 1), (35, .goto 4, 3), (38, .iconst 0, 1), (39, .putfield 78, 3), (42, .aload_n 0, 1), (43, .getfield 78, 3), (46, .ifCond .le 5, 3), (49, .iconst 0, 1), (50, .ireturn, 1), (51, .aload_n 0, 1), (52, .getfield 39, 3), (55, .iload_n 1, 1), (56, .dup2, 1), (57, .iaload, 1), (58, .iconst 1, 1), (59, .isub, 1), (60, .iastore, 1), (61, .iload_n 2, 1), (62, .istore_n 3, 1), (63, .iload_n 3, 1), (64, .aload_n 0, 1), (65, .getfield 39, 3), (68, .iload_n 1, 1), (69, .iaload, 1), (70, .if_icmp .ge 113, 3), (73, .aload_n 0, 1), (74, .getfield 30, 3), (77, .bipush 22, 2), (79, .iload_n 1, 1), (80, .imul, 1), (81, .iconst 2, 1), (82, .iadd, 1), (83, .iload_n 3, 1), (84, .iadd, 1), (85, .aload_n 0, 1), (86, .getfield 30, 3), (89, .bipush 22, 2), (91, .iload_n 1, 1), (92, .imul, 1), (93, .iconst 2, 1), (94, .iadd, 1), (95, .iload_n 3, 1)]
theorem DX8_destroy_0 : ∀ q ∈ tX8_destroy_0, decode cX8_destroy q.1 = .ok (q.2.1, q.2.2) := by decide +kernel
def tX8_destroy_1 : List (Nat × Instr × Nat) := [(96, .iadd, 1), (97, .iconst 1, 1), (98, .iadd, 1), (99, .iaload, 1), (100, .iastore, 1), (101, .aload_n 0, 1), (102, .getfield 33, 3), (105, .bipush 22, 2), (107, .iload_n 1, 1), (108, .imul, 1), (109, .iconst 2, 1), (110, .iadd, 1), (111, .iload_n 3, 1), (112, .iadd, 1), (113, .aload_n 0, 1), (114, .getfield 33, 3), (117, .bipush 22, 2), (119, .iload_n 1, 1), (120, .imul, 1), (121, .iconst 2, 1), (122, .iadd, 1), (123, .iload_n 3, 1), (124, .iadd, 1), (125, .iconst 1, 1), (126, .iadd, 1), (127, .iaload, 1), (128, .iastore, 1), (129, .aload_n 0, 1), (130, .getfield 42, 3), (133, .bipush 20, 2), (135, .iload_n 1, 1), (136, .imul, 1), (137, .iload_n 3, 1), (138, .iadd, 1), (139, .aload_n 0, 1), (140, .getfield 42, 3), (143, .bipush 20, 2), (145, .iload_n 1, 1), (146, .imul, 1), (147, .iload_n 3, 1), (148, .iadd, 1), (149, .iconst 1, 1), (150, .iadd, 1), (151, .iaload, 1), (152, .iastore, 1), (153, .aload_n 0, 1), (154, .getfield 45, 3), (157, .bipush 20, 2), (159, .iload_n 1, 1), (160, .imul, 1), (161, .iload_n 3, 1), (162, .iadd, 1), (163, .aload_n 0, 1), (164, .getfield 45, 3), (167, .bipush 20, 2), (169, .iload_n 1, 1), (170, .imul, 1), (171, .iload_n 3, 1), (172, .iadd, 1), (173, .iconst 1, 1)]
theorem DX8_destroy_1 : ∀ q ∈ tX8_destroy_1, decode cX8_destroy q.1 = .ok (q.2.1, q.2.2) := by decide +kernel
def tX8_destroy_2 : List (Nat × Instr × Nat) := [(174, .iadd, 1), (175, .laload, 1), (176, .lastore, 1), (177, .iinc 3 1, 3), (180, .goto (-117), 3), (183, .aload_n 0, 1), (184, .iload_n 1, 1), (185, .invokevirtual 135, 3), (188, .aload_n 0, 1), (189, .getfield 39, 3), (192, .iload_n 1, 1), (193, .iaload, 1), (194, .ireturn, 1)]
theorem DX8_destroy_2 : ∀ q ∈ tX8_destroy_2, decode cX8_destroy q.1 = .ok (q.2.1, q.2.2) := by decide +kernel
def tX8_destroy : List (Nat × Instr × Nat) := tX8_destroy_0 ++ (tX8_destroy_1 ++ (tX8_destroy_2))
theorem DX8_destroy : ∀ q ∈ tX8_destroy, decode cX8_destroy q.1 = .ok (q.2.1, q.2.2) := (fun q h => (List.mem_append.mp h).elim (DX8_destroy_0 q) ((fun q h => (List.mem_append.mp h).elim (DX8_destroy_1 q) (DX8_destroy_2 q)) q))
abbrev wsX8_rollback : List Cond := Cond.code yX8_rollback cX8_rollback 3 (some .int) :: gW
theorem eX8_rollback : yX8_rollback.cls ≠ "java/lang/invoke/MethodHandle" ∧ yX8_rollback.cls ≠ "java/lang/invoke/VarHandle" ∧ (parseMethodDescriptor yX8_rollback.desc).map (fun d => d.parameters.length) = some 1 := by decide +kernel
def tX8_rollback : List (Nat × Instr × Nat) := [(0, .aload_n 0, 1), (1, .iload_n 1, 1), (2, .invokestatic 82, 3), (5, .ifCond .ne 7, 3), (8, .iconst 1, 1), (9, .goto 30, 3), (12, .aload_n 0, 1), (13, .getfield 48, 3), (16, .iload_n 1, 1), (17, .baload, 1), (18, .ifCond .eq 7, 3), (21, .iconst 2, 1), (22, .goto 17, 3), (25, .aload_n 0, 1), (26, .getfield 39, 3), (29, .iload_n 1, 1), (30, .iaload, 1), (31, .ifCond .ne 7, 3), (34, .iconst 3, 1), (35, .goto 4, 3), (38, .iconst 0, 1), (39, .putfield 78, 3), (42, .aload_n 0, 1), (43, .getfield 78, 3), (46, .ifCond .le 5, 3), (49, .iconst 0, 1), (50, .ireturn, 1), (51, .aload_n 0, 1), (52, .getfield 39, 3), (55, .iload_n 1, 1), (56, .iaload, 1), (57, .iconst 1, 1), (58, .isub, 1), (59, .istore_n 2, 1), (60, .aload_n 0, 1), (61, .getfield 30, 3), (64, .bipush 22, 2), (66, .iload_n 1, 1), (67, .imul, 1), (68, .iconst 0, 1), (69, .iadd, 1), (70, .aload_n 0, 1), (71, .getfield 30, 3), (74, .bipush 22, 2), (76, .iload_n 1, 1), (77, .imul, 1), (78, .iconst 2, 1), (79, .iadd, 1), (80, .iload_n 2, 1), (81, .iadd, 1), (82, .iaload, 1), (83, .iastore, 1), (84, .aload_n 0, 1), (85, .getfield 33, 3), (88, .bipush 22, 2), (90, .iload_n 1, 1), (91, .imul, 1), (92, .iconst 0, 1), (93, .iadd, 1), (94, .aload_n 0, 1), (95, .getfield 33, 3), (98, .bipush 22, 2), (100, .iload_n 1, 1), (101, .imul, 1), (102, .iconst 2, 1), (103, .iadd, 1), (104, .iload_n 2, 1), (105, .iadd, 1), (106, .iaload, 1), (107, .iastore, 1), (108, .aload_n 0, 1), (109, .iload_n 1, 1), (110, .invokevirtual 135, 3), (113, .iload_n 2, 1), (114, .ireturn, 1)]
theorem DX8_rollback : ∀ q ∈ tX8_rollback, decode cX8_rollback q.1 = .ok (q.2.1, q.2.2) := by decide +kernel
abbrev wsX8_put : List Cond := Cond.code yX8_put cX8_put 5 none :: gW
theorem eX8_put : yX8_put.cls ≠ "java/lang/invoke/MethodHandle" ∧ yX8_put.cls ≠ "java/lang/invoke/VarHandle" ∧ (parseMethodDescriptor yX8_put.desc).map (fun d => d.parameters.length) = some 2 := by decide +kernel
def tX8_put : List (Nat × Instr × Nat) := [(0, .iload_n 3, 1), (1, .iconst 1, 1), (2, .isub, 1), (3, .istore 4, 2), (5, .iload 4, 2), (7, .ifCond .lt 37, 3), (10, .aload_n 0, 1), (11, .getfield 64, 3), (14, .aload_n 0, 1), (15, .getfield 147, 3), (18, .lload_n 1, 1), (19, .bipush 8, 2), (21, .iload 4, 2), (23, .imul, 1), (24, .lshr, 1), (25, .l2i, 1), (26, .i2b, 1), (27, .bastore, 1), (28, .aload_n 0, 1), (29, .dup, 1), (30, .getfield 147, 3), (33, .iconst 1, 1), (34, .iadd, 1), (35, .putfield 147, 3), (38, .iinc 4 (-1), 3), (41, .goto (-36), 3), (44, .return_, 1)]
theorem DX8_put : ∀ q ∈ tX8_put, decode cX8_put q.1 = .ok (q.2.1, q.2.2) := by decide +kernel
abbrev wsX8_sumOf : List Cond := Cond.code yX8_sumOf cX8_sumOf 6 (some .long) :: gW
theorem eX8_sumOf : yX8_sumOf.cls ≠ "java/lang/invoke/MethodHandle" ∧ yX8_sumOf.cls ≠ "java/lang/invoke/VarHandle" ∧ (parseMethodDescriptor yX8_sumOf.desc).map (fun d => d.parameters.length) = some 2 := by decide +kernel
def tX8_sumOf : List (Nat × Instr × Nat) := [(0, .iconst 1, 1), (1, .istore_n 3, 1), (2, .iconst 0, 1), (3, .istore 4, 2), (5, .iload_n 1, 1), (6, .istore 5, 2), (8, .iload 5, 2), (10, .iload_n 2, 1), (11, .if_icmp .ge 29, 3), (14, .iload_n 3, 1), (15, .aload_n 0, 1), (16, .getfield 64, 3), (19, .iload 5, 2), (21, .baload, 1), (22, .sipush 255, 3), (25, .iand, 1), (26, .iadd, 1), (27, .istore_n 3, 1), (28, .iload 4, 2), (30, .iload_n 3, 1), (31, .iadd, 1), (32, .istore 4, 2), (34, .iinc 5 1, 3), (37, .goto (-29), 3), (40, .iload 4, 2), (42, .i2l, 1), (43, .bipush 32, 2), (45, .lshl, 1), (46, .iload_n 3, 1), (47, .i2l, 1), (48, .ldc2_w 150, 3), (51, .land, 1), (52, .lor, 1), (53, .lreturn, 1)]
theorem DX8_sumOf : ∀ q ∈ tX8_sumOf, decode cX8_sumOf q.1 = .ok (q.2.1, q.2.2) := by decide +kernel
abbrev wsX8_ends : List Cond := Cond.code yX8_ends cX8_ends 1 none :: gW
theorem eX8_ends : yX8_ends.cls ≠ "java/lang/invoke/MethodHandle" ∧ yX8_ends.cls ≠ "java/lang/invoke/VarHandle" ∧ (parseMethodDescriptor yX8_ends.desc).map (fun d => d.parameters.length) = some 0 := by decide +kernel
def tX8_ends : List (Nat × Instr × Nat) := [(0, .aload_n 0, 1), (1, .aload_n 0, 1), (2, .aload_n 0, 1), (3, .getfield 152, 3), (6, .aload_n 0, 1), (7, .getfield 147, 3), (10, .invokevirtual 155, 3), (13, .bipush 8, 2), (15, .invokevirtual 159, 3), (18, .aload_n 0, 1), (19, .aload_n 0, 1), (20, .getfield 147, 3), (23, .putfield 152, 3), (26, .aload_n 0, 1), (27, .dup, 1), (28, .getfield 163, 3), (31, .iconst 1, 1), (32, .iadd, 1), (33, .putfield 163, 3), (36, .return_, 1)]
theorem DX8_ends : ∀ q ∈ tX8_ends, decode cX8_ends q.1 = .ok (q.2.1, q.2.2) := by decide +kernel
abbrev wsX8_brings : List Cond := Cond.code yX8_brings cX8_brings 7 (some .boolean) :: gW
theorem eX8_brings : yX8_brings.cls ≠ "java/lang/invoke/MethodHandle" ∧ yX8_brings.cls ≠ "java/lang/invoke/VarHandle" ∧ (parseMethodDescriptor yX8_brings.desc).map (fun d => d.parameters.length) = some 5 := by decide +kernel
def tX8_brings : List (Nat × Instr × Nat) := [(0, .aload_n 0, 1), (1, .iload_n 1, 1), (2, .iload_n 2, 1), (3, .invokevirtual 97, 3), (6, .iload 5, 2), (8, .if_icmp .gt 5, 3), (11, .iconst 0, 1), (12, .ireturn, 1), (13, .aload_n 0, 1), (14, .iload_n 1, 1), (15, .iload_n 2, 1), (16, .invokevirtual 90, 3), (19, .istore 6, 2), (21, .iload 6, 2), (23, .iconst (-1), 1), (24, .if_icmp .ne 42, 3), (27, .aload_n 0, 1), (28, .ldc2_w 166, 3), (31, .iconst 1, 1), (32, .invokevirtual 159, 3), (35, .aload_n 0, 1), (36, .iload_n 3, 1), (37, .i2l, 1), (38, .iconst 2, 1), (39, .invokevirtual 159, 3), (42, .aload_n 0, 1), (43, .iload 4, 2), (45, .i2l, 1), (46, .iconst 2, 1), (47, .invokevirtual 159, 3), (50, .aload_n 0, 1), (51, .invokevirtual 168, 3), (54, .aload_n 0, 1), (55, .dup, 1), (56, .getfield 171, 3), (59, .iconst 1, 1), (60, .iadd, 1), (61, .putfield 171, 3), (64, .iconst 0, 1), (65, .ireturn, 1), (66, .aload_n 0, 1), (67, .dup, 1), (68, .getfield 173, 3), (71, .iconst 1, 1), (72, .iadd, 1), (73, .putfield 173, 3), (76, .iload 4, 2), (78, .iconst 1, 1), (79, .if_icmp .le 5, 3), (82, .iconst 1, 1), (83, .ireturn, 1), (84, .aload_n 0, 1), (85, .ldc2_w 176, 3), (88, .iconst 1, 1), (89, .invokevirtual 159, 3), (92, .aload_n 0, 1), (93, .iload_n 3, 1), (94, .i2l, 1), (95, .iconst 2, 1), (96, .invokevirtual 159, 3), (99, .aload_n 0, 1), (100, .aload_n 0, 1), (101, .getfield 22, 3), (104, .sipush 600, 3), (107, .iload_n 1, 1), (108, .imul, 1), (109, .iload 6, 2), (111, .iadd, 1), (112, .laload, 1), (113, .bipush 8, 2), (115, .invokevirtual 159, 3), (118, .aload_n 0, 1), (119, .invokevirtual 168, 3), (122, .aload_n 0, 1), (123, .dup, 1), (124, .getfield 178, 3), (127, .iconst 1, 1), (128, .iadd, 1), (129, .putfield 178, 3), (132, .iconst 0, 1), (133, .ireturn, 1)]
theorem DX8_brings : ∀ q ∈ tX8_brings, decode cX8_brings q.1 = .ok (q.2.1, q.2.2) := by decide +kernel
abbrev wsX8_send : List Cond := Cond.code yX8_send cX8_send 12 (some .int) :: gW
theorem eX8_send : yX8_send.cls ≠ "java/lang/invoke/MethodHandle" ∧ yX8_send.cls ≠ "java/lang/invoke/VarHandle" ∧ (parseMethodDescriptor yX8_send.desc).map (fun d => d.parameters.length) = some 3 := by decide +kernel
def tX8_send_0 : List (Nat × Instr × Nat) := [(0, .aload_n 0, 1), (1, .iload_n 1, 1), (2, .invokestatic 82, 3), (5, .ifCond .ne 7, 3), (8, .iconst 1, 1), (9, .goto 31, 3), (12, .aload_n 0, 1), (13, .iload_n 1, 1), (14, .iload_n 3, 1), (15, .invokevirtual 141, 3), (18, .ifCond .ne 7, 3), (21, .iconst 2, 1), (22, .goto 18, 3), (25, .iload_n 2, 1), (26, .iconst (-1), 1), (27, .if_icmp .lt 8, 3), (30, .iload_n 2, 1), (31, .iload_n 3, 1), (32, .if_icmp .lt 7, 3), (35, .iconst 3, 1), (36, .goto 4, 3), (39, .iconst 0, 1), (40, .putfield 78, 3), (43, .aload_n 0, 1), (44, .getfield 78, 3), (47, .ifCond .le 5, 3), (50, .iconst 0, 1), (51, .ireturn, 1), (52, .aload_n 0, 1), (53, .iconst 0, 1), (54, .putfield 147, 3), (57, .aload_n 0, 1), (58, .iconst 0, 1), (59, .putfield 152, 3), (62, .aload_n 0, 1), (63, .iconst 0, 1), (64, .putfield 163, 3), (67, .aload_n 0, 1), (68, .iconst 0, 1), (69, .putfield 178, 3), (72, .aload_n 0, 1), (73, .iconst 0, 1), (74, .putfield 171, 3), (77, .aload_n 0, 1), (78, .iconst 0, 1), (79, .putfield 173, 3), (82, .iload_n 2, 1), (83, .iconst (-1), 1), (84, .if_icmp .ne 7, 3), (87, .iconst 0, 1), (88, .goto 14, 3), (91, .aload_n 0, 1), (92, .getfield 42, 3), (95, .bipush 20, 2), (97, .iload_n 1, 1), (98, .imul, 1), (99, .iload_n 2, 1), (100, .iadd, 1), (101, .iaload, 1), (102, .istore 4, 2)]
theorem DX8_send_0 : ∀ q ∈ tX8_send_0, decode cX8_send q.1 = .ok (q.2.1, q.2.2) := by decide +kernel
def tX8_send_1 : List (Nat × Instr × Nat) := [(104, .aload_n 0, 1), (105, .lconst 1, 1), (106, .iconst 1, 1), (107, .invokevirtual 159, 3), (110, .aload_n 0, 1), (111, .iload_n 2, 1), (112, .iconst (-1), 1), (113, .if_icmp .ne 7, 3), (116, .lconst 0, 1), (117, .goto 14, 3), (120, .aload_n 0, 1), (121, .getfield 45, 3), (124, .bipush 20, 2), (126, .iload_n 1, 1), (127, .imul, 1), (128, .iload_n 2, 1), (129, .iadd, 1), (130, .laload, 1), (131, .bipush 8, 2), (133, .invokevirtual 159, 3), (136, .aload_n 0, 1), (137, .aload_n 0, 1), (138, .getfield 45, 3), (141, .bipush 20, 2), (143, .iload_n 1, 1), (144, .imul, 1), (145, .iload_n 3, 1), (146, .iadd, 1), (147, .laload, 1), (148, .bipush 8, 2), (150, .invokevirtual 159, 3), (153, .aload_n 0, 1), (154, .invokevirtual 168, 3), (157, .bipush (-3), 2), (159, .iload_n 3, 1), (160, .isub, 1), (161, .istore 5, 2), (163, .aload_n 0, 1), (164, .iload_n 1, 1), (165, .iload 5, 2), (167, .iconst 0, 1), (168, .sipush 512, 3), (171, .iload 4, 2), (173, .invokevirtual 180, 3), (176, .istore 6, 2), (178, .iconst 0, 1), (179, .istore 7, 2), (181, .iload 7, 2), (183, .bipush 8, 2), (185, .if_icmp .ge 162, 3), (188, .iload 6, 2), (190, .ifCond .eq 157, 3), (193, .bipush 8, 2), (195, .aload_n 0, 1), (196, .iload_n 1, 1), (197, .iload 5, 2), (199, .invokevirtual 90, 3), (202, .imul, 1), (203, .iload 7, 2), (205, .iadd, 1)]
theorem DX8_send_1 : ∀ q ∈ tX8_send_1, decode cX8_send q.1 = .ok (q.2.1, q.2.2) := by decide +kernel
def tX8_send_2 : List (Nat × Instr × Nat) := [(206, .istore 8, 2), (208, .aload_n 0, 1), (209, .iload_n 1, 1), (210, .iload 8, 2), (212, .bipush 64, 2), (214, .iload 7, 2), (216, .imul, 1), (217, .bipush 64, 2), (219, .iload 4, 2), (221, .invokevirtual 180, 3), (224, .ifCond .ne 6, 3), (227, .goto 114, 3), (230, .iconst 0, 1), (231, .istore 9, 2), (233, .iload 9, 2), (235, .bipush 8, 2), (237, .if_icmp .ge 104, 3), (240, .bipush 8, 2), (242, .aload_n 0, 1), (243, .iload_n 1, 1), (244, .iload 8, 2), (246, .invokevirtual 90, 3), (249, .imul, 1), (250, .iload 9, 2), (252, .iadd, 1), (253, .istore 10, 2), (255, .aload_n 0, 1), (256, .iload_n 1, 1), (257, .iload 10, 2), (259, .bipush 64, 2), (261, .iload 7, 2), (263, .imul, 1), (264, .bipush 8, 2), (266, .iload 9, 2), (268, .imul, 1), (269, .iadd, 1), (270, .bipush 8, 2), (272, .iload 4, 2), (274, .invokevirtual 180, 3), (277, .ifCond .ne 6, 3), (280, .goto 55, 3), (283, .iconst 0, 1), (284, .istore 11, 2), (286, .iload 11, 2), (288, .bipush 8, 2), (290, .if_icmp .ge 45, 3), (293, .aload_n 0, 1), (294, .iload_n 1, 1), (295, .bipush 8, 2), (297, .aload_n 0, 1), (298, .iload_n 1, 1), (299, .iload 10, 2), (301, .invokevirtual 90, 3), (304, .imul, 1), (305, .iload 11, 2), (307, .iadd, 1), (308, .bipush 64, 2), (310, .iload 7, 2), (312, .imul, 1), (313, .bipush 8, 2)]
theorem DX8_send_2 : ∀ q ∈ tX8_send_2, decode cX8_send q.1 = .ok (q.2.1, q.2.2) := by decide +kernel
def tX8_send_3 : List (Nat × Instr × Nat) := [(315, .iload 9, 2), (317, .imul, 1), (318, .iadd, 1), (319, .iload 11, 2), (321, .iadd, 1), (322, .iconst 1, 1), (323, .iload 4, 2), (325, .invokevirtual 180, 3), (328, .pop, 1), (329, .iinc 11 1, 3), (332, .goto (-46), 3), (335, .iinc 9 1, 3), (338, .goto (-105), 3), (341, .iinc 7 1, 3), (344, .goto (-163), 3), (347, .aload_n 0, 1), (348, .ldc2_w 184, 3), (351, .iconst 1, 1), (352, .invokevirtual 159, 3), (355, .aload_n 0, 1), (356, .aload_n 0, 1), (357, .getfield 163, 3), (360, .i2l, 1), (361, .iconst 4, 1), (362, .invokevirtual 159, 3), (365, .aload_n 0, 1), (366, .invokevirtual 168, 3), (369, .aload_n 0, 1), (370, .getfield 147, 3), (373, .ireturn, 1)]
theorem DX8_send_3 : ∀ q ∈ tX8_send_3, decode cX8_send q.1 = .ok (q.2.1, q.2.2) := by decide +kernel
def tX8_send : List (Nat × Instr × Nat) := tX8_send_0 ++ (tX8_send_1 ++ (tX8_send_2 ++ (tX8_send_3)))
theorem DX8_send : ∀ q ∈ tX8_send, decode cX8_send q.1 = .ok (q.2.1, q.2.2) := (fun q h => (List.mem_append.mp h).elim (DX8_send_0 q) ((fun q h => (List.mem_append.mp h).elim (DX8_send_1 q) ((fun q h => (List.mem_append.mp h).elim (DX8_send_2 q) (DX8_send_3 q)) q)) q))
abbrev wsX8_number : List Cond := Cond.code yX8_number cX8_number 6 (some .long) :: gW
theorem eX8_number : yX8_number.cls ≠ "java/lang/invoke/MethodHandle" ∧ yX8_number.cls ≠ "java/lang/invoke/VarHandle" ∧ (parseMethodDescriptor yX8_number.desc).map (fun d => d.parameters.length) = some 2 := by decide +kernel
def tX8_number : List (Nat × Instr × Nat) := [(0, .lconst 0, 1), (1, .lstore_n 3, 1), (2, .iconst 0, 1), (3, .istore 5, 2), (5, .iload 5, 2), (7, .iload_n 2, 1), (8, .if_icmp .ge 29, 3), (11, .lload_n 3, 1), (12, .bipush 8, 2), (14, .lshl, 1), (15, .aload_n 0, 1), (16, .getfield 64, 3), (19, .iload_n 1, 1), (20, .iload 5, 2), (22, .iadd, 1), (23, .baload, 1), (24, .sipush 255, 3), (27, .iand, 1), (28, .i2l, 1), (29, .lor, 1), (30, .lstore_n 3, 1), (31, .iinc 5 1, 3), (34, .goto (-29), 3), (37, .lload_n 3, 1), (38, .lreturn, 1)]
theorem DX8_number : ∀ q ∈ tX8_number, decode cX8_number q.1 = .ok (q.2.1, q.2.2) := by decide +kernel
abbrev wsX8_isWhole : List Cond := Cond.code yX8_isWhole cX8_isWhole 3 (some .boolean) :: gW
theorem eX8_isWhole : yX8_isWhole.cls ≠ "java/lang/invoke/MethodHandle" ∧ yX8_isWhole.cls ≠ "java/lang/invoke/VarHandle" ∧ (parseMethodDescriptor yX8_isWhole.desc).map (fun d => d.parameters.length) = some 2 := by decide +kernel
def tX8_isWhole : List (Nat × Instr × Nat) := [(0, .aload_n 0, 1), (1, .getfield 147, 3), (4, .iload_n 1, 1), (5, .isub, 1), (6, .iload_n 2, 1), (7, .if_icmp .lt 34, 3), (10, .aload_n 0, 1), (11, .iload_n 1, 1), (12, .iload_n 2, 1), (13, .iadd, 1), (14, .bipush 8, 2), (16, .isub, 1), (17, .bipush 8, 2), (19, .invokevirtual 186, 3), (22, .aload_n 0, 1), (23, .iload_n 1, 1), (24, .iload_n 1, 1), (25, .iload_n 2, 1), (26, .iadd, 1), (27, .bipush 8, 2), (29, .isub, 1), (30, .invokevirtual 155, 3), (33, .lcmp, 1), (34, .ifCond .ne 7, 3), (37, .iconst 1, 1), (38, .goto 4, 3), (41, .iconst 0, 1), (42, .ireturn, 1)]
theorem DX8_isWhole : ∀ q ∈ tX8_isWhole, decode cX8_isWhole q.1 = .ok (q.2.1, q.2.2) := by decide +kernel
abbrev wsX8_receive : List Cond := Cond.code yX8_receive cX8_receive 9 (some .int) :: gW
theorem eX8_receive : yX8_receive.cls ≠ "java/lang/invoke/MethodHandle" ∧ yX8_receive.cls ≠ "java/lang/invoke/VarHandle" ∧ (parseMethodDescriptor yX8_receive.desc).map (fun d => d.parameters.length) = some 1 := by decide +kernel
def tX8_receive_0 : List (Nat × Instr × Nat) := [(0, .aload_n 0, 1), (1, .iload_n 1, 1), (2, .invokestatic 82, 3), (5, .ifCond .eq 7, 3), (8, .iconst 0, 1), (9, .goto 4, 3), (12, .iconst 1, 1), (13, .putfield 78, 3), (16, .aload_n 0, 1), (17, .getfield 78, 3), (20, .ifCond .le 5, 3), (23, .iconst 0, 1), (24, .ireturn, 1), (25, .iload_n 1, 1), (26, .istore_n 2, 1), (27, .aload_n 0, 1), (28, .getfield 48, 3), (31, .iload_n 2, 1), (32, .baload, 1), (33, .ifCond .eq 6, 3), (36, .bipush 6, 2), (38, .ireturn, 1), (39, .aload_n 0, 1), (40, .getfield 147, 3), (43, .iconst 1, 1), (44, .if_icmp .lt 23, 3), (47, .aload_n 0, 1), (48, .getfield 64, 3), (51, .iconst 0, 1), (52, .baload, 1), (53, .iconst 1, 1), (54, .if_icmp .ne 13, 3), (57, .aload_n 0, 1), (58, .iconst 0, 1), (59, .bipush 25, 2), (61, .invokevirtual 189, 3), (64, .ifCond .ne 5, 3), (67, .iconst 1, 1), (68, .ireturn, 1), (69, .aload_n 0, 1), (70, .iconst 1, 1), (71, .bipush 8, 2), (73, .invokevirtual 186, 3), (76, .lstore_n 3, 1), (77, .aload_n 0, 1), (78, .getfield 39, 3), (81, .iload_n 2, 1), (82, .iaload, 1), (83, .iconst 1, 1), (84, .isub, 1), (85, .istore 5, 2), (87, .lload_n 3, 1), (88, .lconst 0, 1), (89, .lcmp, 1), (90, .ifCond .eq 28, 3), (93, .iload 5, 2), (95, .ifCond .lt 28, 3), (98, .aload_n 0, 1), (99, .getfield 45, 3), (102, .bipush 20, 2)]
theorem DX8_receive_0 : ∀ q ∈ tX8_receive_0, decode cX8_receive q.1 = .ok (q.2.1, q.2.2) := by decide +kernel
def tX8_receive_1 : List (Nat × Instr × Nat) := [(104, .iload_n 2, 1), (105, .imul, 1), (106, .iload 5, 2), (108, .iadd, 1), (109, .laload, 1), (110, .lload_n 3, 1), (111, .lcmp, 1), (112, .ifCond .eq 13, 3), (115, .goto 8, 3), (118, .iload 5, 2), (120, .ifCond .lt 5, 3), (123, .iconst 2, 1), (124, .ireturn, 1), (125, .bipush 22, 2), (127, .iload_n 2, 1), (128, .imul, 1), (129, .iconst 0, 1), (130, .iadd, 1), (131, .istore 6, 2), (133, .iload 5, 2), (135, .ifCond .ge 22, 3), (138, .aload_n 0, 1), (139, .getfield 30, 3), (142, .iload 6, 2), (144, .iaload, 1), (145, .iconst (-1), 1), (146, .if_icmp .ne 7, 3), (149, .iconst 1, 1), (150, .goto 60, 3), (153, .iconst 0, 1), (154, .goto 56, 3), (157, .aload_n 0, 1), (158, .getfield 30, 3), (161, .iload 6, 2), (163, .iaload, 1), (164, .aload_n 0, 1), (165, .getfield 30, 3), (168, .bipush 22, 2), (170, .iload_n 2, 1), (171, .imul, 1), (172, .iconst 2, 1), (173, .iadd, 1), (174, .iload 5, 2), (176, .iadd, 1), (177, .iaload, 1), (178, .if_icmp .ne 31, 3), (181, .aload_n 0, 1), (182, .getfield 33, 3), (185, .iload 6, 2), (187, .iaload, 1), (188, .aload_n 0, 1), (189, .getfield 33, 3), (192, .bipush 22, 2), (194, .iload_n 2, 1), (195, .imul, 1), (196, .iconst 2, 1), (197, .iadd, 1), (198, .iload 5, 2), (200, .iadd, 1), (201, .iaload, 1)]
theorem DX8_receive_1 : ∀ q ∈ tX8_receive_1, decode cX8_receive q.1 = .ok (q.2.1, q.2.2) := by decide +kernel
def tX8_receive_2 : List (Nat × Instr × Nat) := [(202, .if_icmp .ne 7, 3), (205, .iconst 1, 1), (206, .goto 4, 3), (209, .iconst 0, 1), (210, .istore 7, 2), (212, .iload 7, 2), (214, .ifCond .ne 5, 3), (217, .iconst 3, 1), (218, .ireturn, 1), (219, .iconst 0, 1), (220, .istore 8, 2), (222, .iload 8, 2), (224, .aload_n 0, 1), (225, .getfield 39, 3), (228, .iload_n 2, 1), (229, .iaload, 1), (230, .if_icmp .ge 35, 3), (233, .aload_n 0, 1), (234, .getfield 45, 3), (237, .bipush 20, 2), (239, .iload_n 2, 1), (240, .imul, 1), (241, .iload 8, 2), (243, .iadd, 1), (244, .laload, 1), (245, .aload_n 0, 1), (246, .bipush 9, 2), (248, .bipush 8, 2), (250, .invokevirtual 186, 3), (253, .lcmp, 1), (254, .ifCond .ne 5, 3), (257, .iconst 4, 1), (258, .ireturn, 1), (259, .iinc 8 1, 3), (262, .goto (-40), 3), (265, .aload_n 0, 1), (266, .getfield 30, 3), (269, .bipush 22, 2), (271, .iload_n 2, 1), (272, .imul, 1), (273, .iconst 1, 1), (274, .iadd, 1), (275, .aload_n 0, 1), (276, .getfield 30, 3), (279, .iload 6, 2), (281, .iaload, 1), (282, .iastore, 1), (283, .aload_n 0, 1), (284, .getfield 33, 3), (287, .bipush 22, 2), (289, .iload_n 2, 1), (290, .imul, 1), (291, .iconst 1, 1), (292, .iadd, 1), (293, .aload_n 0, 1), (294, .getfield 33, 3), (297, .iload 6, 2), (299, .iaload, 1), (300, .iastore, 1), (301, .aload_n 0, 1)]
theorem DX8_receive_2 : ∀ q ∈ tX8_receive_2, decode cX8_receive q.1 = .ok (q.2.1, q.2.2) := by decide +kernel
def tX8_receive_3 : List (Nat × Instr × Nat) := [(302, .getfield 48, 3), (305, .iload_n 2, 1), (306, .iconst 1, 1), (307, .bastore, 1), (308, .aload_n 0, 1), (309, .getfield 51, 3), (312, .iload_n 2, 1), (313, .bipush 25, 2), (315, .iastore, 1), (316, .aload_n 0, 1), (317, .getfield 54, 3), (320, .iload_n 2, 1), (321, .iconst 0, 1), (322, .iastore, 1), (323, .aload_n 0, 1), (324, .getfield 57, 3), (327, .iload_n 2, 1), (328, .aload_n 0, 1), (329, .bipush 9, 2), (331, .bipush 8, 2), (333, .invokevirtual 186, 3), (336, .lastore, 1), (337, .iconst 0, 1), (338, .ireturn, 1)]
theorem DX8_receive_3 : ∀ q ∈ tX8_receive_3, decode cX8_receive q.1 = .ok (q.2.1, q.2.2) := by decide +kernel
def tX8_receive : List (Nat × Instr × Nat) := tX8_receive_0 ++ (tX8_receive_1 ++ (tX8_receive_2 ++ (tX8_receive_3)))
theorem DX8_receive : ∀ q ∈ tX8_receive, decode cX8_receive q.1 = .ok (q.2.1, q.2.2) := (fun q h => (List.mem_append.mp h).elim (DX8_receive_0 q) ((fun q h => (List.mem_append.mp h).elim (DX8_receive_1 q) ((fun q h => (List.mem_append.mp h).elim (DX8_receive_2 q) (DX8_receive_3 q)) q)) q))
abbrev wsX8_stops : List Cond := Cond.code yX8_stops cX8_stops 2 none :: gW
theorem eX8_stops : yX8_stops.cls ≠ "java/lang/invoke/MethodHandle" ∧ yX8_stops.cls ≠ "java/lang/invoke/VarHandle" ∧ (parseMethodDescriptor yX8_stops.desc).map (fun d => d.parameters.length) = some 1 := by decide +kernel
def tX8_stops : List (Nat × Instr × Nat) := [(0, .aload_n 0, 1), (1, .getfield 48, 3), (4, .iload_n 1, 1), (5, .iconst 0, 1), (6, .bastore, 1), (7, .aload_n 0, 1), (8, .iload_n 1, 1), (9, .invokevirtual 135, 3), (12, .return_, 1)]
theorem DX8_stops : ∀ q ∈ tX8_stops, decode cX8_stops q.1 = .ok (q.2.1, q.2.2) := by decide +kernel
abbrev wsX8_endsHere : List Cond := Cond.code yX8_endsHere cX8_endsHere 2 (some .int) :: gW
theorem eX8_endsHere : yX8_endsHere.cls ≠ "java/lang/invoke/MethodHandle" ∧ yX8_endsHere.cls ≠ "java/lang/invoke/VarHandle" ∧ (parseMethodDescriptor yX8_endsHere.desc).map (fun d => d.parameters.length) = some 1 := by decide +kernel
def tX8_endsHere : List (Nat × Instr × Nat) := [(0, .aload_n 0, 1), (1, .aload_n 0, 1), (2, .getfield 51, 3), (5, .iload_n 1, 1), (6, .iaload, 1), (7, .bipush 13, 2), (9, .invokevirtual 189, 3), (12, .ifCond .eq 45, 3), (15, .aload_n 0, 1), (16, .aload_n 0, 1), (17, .getfield 51, 3), (20, .iload_n 1, 1), (21, .iaload, 1), (22, .iconst 1, 1), (23, .iadd, 1), (24, .iconst 4, 1), (25, .invokevirtual 186, 3), (28, .aload_n 0, 1), (29, .getfield 54, 3), (32, .iload_n 1, 1), (33, .iaload, 1), (34, .iconst 1, 1), (35, .iadd, 1), (36, .i2l, 1), (37, .lcmp, 1), (38, .ifCond .ne 19, 3), (41, .aload_n 0, 1), (42, .getfield 147, 3), (45, .aload_n 0, 1), (46, .getfield 51, 3), (49, .iload_n 1, 1), (50, .iaload, 1), (51, .bipush 13, 2), (53, .iadd, 1), (54, .if_icmp .eq 5, 3), (57, .iconst 1, 1), (58, .ireturn, 1), (59, .aload_n 0, 1), (60, .getfield 39, 3), (63, .iload_n 1, 1), (64, .iaload, 1), (65, .bipush 20, 2), (67, .if_icmp .ne 5, 3), (70, .iconst 5, 1), (71, .ireturn, 1), (72, .aload_n 0, 1), (73, .getfield 30, 3), (76, .bipush 22, 2), (78, .iload_n 1, 1), (79, .imul, 1), (80, .iconst 0, 1), (81, .iadd, 1), (82, .aload_n 0, 1), (83, .getfield 30, 3), (86, .bipush 22, 2), (88, .iload_n 1, 1), (89, .imul, 1), (90, .iconst 1, 1), (91, .iadd, 1), (92, .iaload, 1), (93, .iastore, 1), (94, .aload_n 0, 1), (95, .getfield 33, 3), (98, .bipush 22, 2), (100, .iload_n 1, 1), (101, .imul, 1), (102, .iconst 0, 1), (103, .iadd, 1), (104, .aload_n 0, 1), (105, .getfield 33, 3), (108, .bipush 22, 2), (110, .iload_n 1, 1), (111, .imul, 1), (112, .iconst 1, 1), (113, .iadd, 1), (114, .iaload, 1), (115, .iastore, 1), (116, .aload_n 0, 1), (117, .iload_n 1, 1), (118, .iconst 0, 1), (119, .aload_n 0, 1), (120, .getfield 57, 3), (123, .iload_n 1, 1), (124, .laload, 1), (125, .invokevirtual 144, 3), (128, .iconst 0, 1), (129, .ireturn, 1)]
theorem DX8_endsHere : ∀ q ∈ tX8_endsHere, decode cX8_endsHere q.1 = .ok (q.2.1, q.2.2) := by decide +kernel
abbrev wsX8_clearsHere : List Cond := Cond.code yX8_clearsHere cX8_clearsHere 7 (some .int) :: gW
theorem eX8_clearsHere : yX8_clearsHere.cls ≠ "java/lang/invoke/MethodHandle" ∧ yX8_clearsHere.cls ≠ "java/lang/invoke/VarHandle" ∧ (parseMethodDescriptor yX8_clearsHere.desc).map (fun d => d.parameters.length) = some 1 := by decide +kernel
def tX8_clearsHere : List (Nat × Instr × Nat) := [(0, .aload_n 0, 1), (1, .getfield 51, 3), (4, .iload_n 1, 1), (5, .iaload, 1), (6, .istore_n 2, 1), (7, .aload_n 0, 1), (8, .iload_n 2, 1), (9, .bipush 13, 2), (11, .invokevirtual 189, 3), (14, .ifCond .ne 5, 3), (17, .iconst 1, 1), (18, .ireturn, 1), (19, .aload_n 0, 1), (20, .iload_n 2, 1), (21, .iconst 1, 1), (22, .iadd, 1), (23, .iconst 2, 1), (24, .invokevirtual 186, 3), (27, .l2i, 1), (28, .istore_n 3, 1), (29, .aload_n 0, 1), (30, .iload_n 2, 1), (31, .iconst 3, 1), (32, .iadd, 1), (33, .iconst 2, 1), (34, .invokevirtual 186, 3), (37, .l2i, 1), (38, .istore 4, 2), (40, .iload 4, 2), (42, .iconst 1, 1), (43, .if_icmp .lt 13, 3), (46, .iload_n 3, 1), (47, .iload 4, 2), (49, .iadd, 1), (50, .sipush 512, 3), (53, .if_icmp .le 5, 3), (56, .iconst 1, 1), (57, .ireturn, 1), (58, .iconst 0, 1), (59, .istore 5, 2), (61, .iload_n 3, 1), (62, .istore 6, 2), (64, .iload 6, 2), (66, .iload_n 3, 1), (67, .iload 4, 2), (69, .iadd, 1), (70, .if_icmp .ge 24, 3), (73, .iload 5, 2), (75, .ifCond .ne 19, 3), (78, .aload_n 0, 1), (79, .iload_n 1, 1), (80, .iconst 1, 1), (81, .iload 6, 2), (83, .invokevirtual 138, 3), (86, .istore 5, 2), (88, .iinc 6 1, 3), (91, .goto (-27), 3), (94, .aload_n 0, 1), (95, .getfield 51, 3), (98, .iload_n 1, 1), (99, .iload_n 2, 1), (100, .bipush 13, 2), (102, .iadd, 1), (103, .iastore, 1), (104, .iload 5, 2), (106, .ireturn, 1)]
theorem DX8_clearsHere : ∀ q ∈ tX8_clearsHere, decode cX8_clearsHere q.1 = .ok (q.2.1, q.2.2) := by decide +kernel
abbrev wsX8_writesHere : List Cond := Cond.code yX8_writesHere cX8_writesHere 3 (some .int) :: gW
theorem eX8_writesHere : yX8_writesHere.cls ≠ "java/lang/invoke/MethodHandle" ∧ yX8_writesHere.cls ≠ "java/lang/invoke/VarHandle" ∧ (parseMethodDescriptor yX8_writesHere.desc).map (fun d => d.parameters.length) = some 1 := by decide +kernel
def tX8_writesHere : List (Nat × Instr × Nat) := [(0, .aload_n 0, 1), (1, .getfield 51, 3), (4, .iload_n 1, 1), (5, .iaload, 1), (6, .istore_n 2, 1), (7, .aload_n 0, 1), (8, .iload_n 2, 1), (9, .bipush 19, 2), (11, .invokevirtual 189, 3), (14, .ifCond .eq 18, 3), (17, .aload_n 0, 1), (18, .iload_n 2, 1), (19, .iconst 1, 1), (20, .iadd, 1), (21, .iconst 2, 1), (22, .invokevirtual 186, 3), (25, .ldc2_w 192, 3), (28, .lcmp, 1), (29, .ifCond .lt 5, 3), (32, .iconst 1, 1), (33, .ireturn, 1), (34, .aload_n 0, 1), (35, .getfield 51, 3), (38, .iload_n 1, 1), (39, .iload_n 2, 1), (40, .bipush 19, 2), (42, .iadd, 1), (43, .iastore, 1), (44, .aload_n 0, 1), (45, .iload_n 1, 1), (46, .iconst 1, 1), (47, .aload_n 0, 1), (48, .iload_n 2, 1), (49, .iconst 1, 1), (50, .iadd, 1), (51, .iconst 2, 1), (52, .invokevirtual 186, 3), (55, .l2i, 1), (56, .aload_n 0, 1), (57, .iload_n 2, 1), (58, .iconst 3, 1), (59, .iadd, 1), (60, .bipush 8, 2), (62, .invokevirtual 186, 3), (65, .invokevirtual 131, 3), (68, .ireturn, 1)]
theorem DX8_writesHere : ∀ q ∈ tX8_writesHere, decode cX8_writesHere q.1 = .ok (q.2.1, q.2.2) := by decide +kernel
abbrev wsX8_record : List Cond := Cond.code yX8_record cX8_record 4 (some .int) :: gW
theorem eX8_record : yX8_record.cls ≠ "java/lang/invoke/MethodHandle" ∧ yX8_record.cls ≠ "java/lang/invoke/VarHandle" ∧ (parseMethodDescriptor yX8_record.desc).map (fun d => d.parameters.length) = some 1 := by decide +kernel
def tX8_record : List (Nat × Instr × Nat) := [(0, .aload_n 0, 1), (1, .getfield 51, 3), (4, .iload_n 1, 1), (5, .iaload, 1), (6, .aload_n 0, 1), (7, .getfield 147, 3), (10, .if_icmp .ge 17, 3), (13, .aload_n 0, 1), (14, .getfield 64, 3), (17, .aload_n 0, 1), (18, .getfield 51, 3), (21, .iload_n 1, 1), (22, .iaload, 1), (23, .baload, 1), (24, .goto 4, 3), (27, .iconst (-1), 1), (28, .istore_n 2, 1), (29, .aload_n 0, 1), (30, .iload_n 1, 1), (31, .invokevirtual 127, 3), (34, .iload_n 2, 1), (35, .iconst 2, 1), (36, .if_icmp .ne 11, 3), (39, .aload_n 0, 1), (40, .iload_n 1, 1), (41, .invokevirtual 194, 3), (44, .goto 30, 3), (47, .iload_n 2, 1), (48, .iconst 3, 1), (49, .if_icmp .ne 11, 3), (52, .aload_n 0, 1), (53, .iload_n 1, 1), (54, .invokevirtual 197, 3), (57, .goto 17, 3), (60, .iload_n 2, 1), (61, .iconst 4, 1), (62, .if_icmp .ne 11, 3), (65, .aload_n 0, 1), (66, .iload_n 1, 1), (67, .invokevirtual 200, 3), (70, .goto 4, 3), (73, .iconst 1, 1), (74, .istore_n 3, 1), (75, .iload_n 3, 1), (76, .ifCond .eq 10, 3), (79, .aload_n 0, 1), (80, .iload_n 1, 1), (81, .invokevirtual 203, 3), (84, .iload_n 3, 1), (85, .ireturn, 1), (86, .aload_n 0, 1), (87, .getfield 54, 3), (90, .iload_n 1, 1), (91, .dup2, 1), (92, .iaload, 1), (93, .iconst 1, 1), (94, .iadd, 1), (95, .iastore, 1), (96, .iload_n 2, 1), (97, .iconst 4, 1), (98, .if_icmp .ne 10, 3), (101, .aload_n 0, 1), (102, .iload_n 1, 1), (103, .invokevirtual 203, 3), (106, .iconst 0, 1), (107, .ireturn, 1), (108, .aload_n 0, 1), (109, .iload_n 1, 1), (110, .invokevirtual 135, 3), (113, .bipush 7, 2), (115, .ireturn, 1)]
theorem DX8_record : ∀ q ∈ tX8_record, decode cX8_record q.1 = .ok (q.2.1, q.2.2) := by decide +kernel
abbrev wsX8_step : List Cond := Cond.code yX8_step cX8_step 5 (some .int) :: gW
theorem eX8_step : yX8_step.cls ≠ "java/lang/invoke/MethodHandle" ∧ yX8_step.cls ≠ "java/lang/invoke/VarHandle" ∧ (parseMethodDescriptor yX8_step.desc).map (fun d => d.parameters.length) = some 2 := by decide +kernel
def tX8_step : List (Nat × Instr × Nat) := [(0, .aload_n 0, 1), (1, .iload_n 1, 1), (2, .invokestatic 82, 3), (5, .ifCond .eq 8, 3), (8, .iload_n 2, 1), (9, .iconst 1, 1), (10, .if_icmp .ge 7, 3), (13, .iconst 1, 1), (14, .goto 17, 3), (17, .aload_n 0, 1), (18, .getfield 48, 3), (21, .iload_n 1, 1), (22, .baload, 1), (23, .ifCond .ne 7, 3), (26, .iconst 2, 1), (27, .goto 4, 3), (30, .iconst 0, 1), (31, .putfield 78, 3), (34, .aload_n 0, 1), (35, .getfield 78, 3), (38, .ifCond .le 5, 3), (41, .iconst 0, 1), (42, .ireturn, 1), (43, .bipush 7, 2), (45, .istore_n 3, 1), (46, .iconst 0, 1), (47, .istore 4, 2), (49, .iload 4, 2), (51, .iload_n 2, 1), (52, .if_icmp .ge 21, 3), (55, .iload_n 3, 1), (56, .bipush 7, 2), (58, .if_icmp .ne 15, 3), (61, .aload_n 0, 1), (62, .iload_n 1, 1), (63, .invokevirtual 206, 3), (66, .istore_n 3, 1), (67, .iinc 4 1, 3), (70, .goto (-21), 3), (73, .iload_n 3, 1), (74, .ireturn, 1)]
theorem DX8_step : ∀ q ∈ tX8_step, decode cX8_step q.1 = .ok (q.2.1, q.2.2) := by decide +kernel
abbrev wsX8_crash : List Cond := Cond.code yX8_crash cX8_crash 2 (some .boolean) :: gW
theorem eX8_crash : yX8_crash.cls ≠ "java/lang/invoke/MethodHandle" ∧ yX8_crash.cls ≠ "java/lang/invoke/VarHandle" ∧ (parseMethodDescriptor yX8_crash.desc).map (fun d => d.parameters.length) = some 1 := by decide +kernel
def tX8_crash : List (Nat × Instr × Nat) := [(0, .aload_n 0, 1), (1, .iload_n 1, 1), (2, .invokestatic 82, 3), (5, .ifCond .eq 7, 3), (8, .iconst 0, 1), (9, .goto 4, 3), (12, .iconst 1, 1), (13, .putfield 78, 3), (16, .aload_n 0, 1), (17, .getfield 78, 3), (20, .ifCond .gt 12, 3), (23, .aload_n 0, 1), (24, .getfield 48, 3), (27, .iload_n 1, 1), (28, .baload, 1), (29, .ifCond .ne 5, 3), (32, .iconst 0, 1), (33, .ireturn, 1), (34, .aload_n 0, 1), (35, .iload_n 1, 1), (36, .invokevirtual 203, 3), (39, .iconst 1, 1), (40, .ireturn, 1)]
theorem DX8_crash : ∀ q ∈ tX8_crash, decode cX8_crash q.1 = .ok (q.2.1, q.2.2) := by decide +kernel
abbrev wsX8_stream : List Cond := Cond.code yX8_stream cX8_stream 2 (some .int) :: gW
theorem eX8_stream : yX8_stream.cls ≠ "java/lang/invoke/MethodHandle" ∧ yX8_stream.cls ≠ "java/lang/invoke/VarHandle" ∧ (parseMethodDescriptor yX8_stream.desc).map (fun d => d.parameters.length) = some 1 := by decide +kernel
def tX8_stream : List (Nat × Instr × Nat) := [(0, .aload_n 0, 1), (1, .iconst 0, 1), (2, .putfield 78, 3), (5, .iload_n 1, 1), (6, .ifCond .lt 11, 3), (9, .iload_n 1, 1), (10, .aload_n 0, 1), (11, .getfield 147, 3), (14, .if_icmp .lt 7, 3), (17, .iconst (-1), 1), (18, .goto 13, 3), (21, .aload_n 0, 1), (22, .getfield 64, 3), (25, .iload_n 1, 1), (26, .baload, 1), (27, .sipush 255, 3), (30, .iand, 1), (31, .ireturn, 1)]
theorem DX8_stream : ∀ q ∈ tX8_stream, decode cX8_stream q.1 = .ok (q.2.1, q.2.2) := by decide +kernel
abbrev wsX8_patch : List Cond := Cond.code yX8_patch cX8_patch 4 (some .int) :: gW
theorem eX8_patch : yX8_patch.cls ≠ "java/lang/invoke/MethodHandle" ∧ yX8_patch.cls ≠ "java/lang/invoke/VarHandle" ∧ (parseMethodDescriptor yX8_patch.desc).map (fun d => d.parameters.length) = some 2 := by decide +kernel
def tX8_patch : List (Nat × Instr × Nat) := [(0, .aload_n 0, 1), (1, .iload_n 1, 1), (2, .ifCond .lt 11, 3), (5, .iload_n 1, 1), (6, .aload_n 0, 1), (7, .getfield 147, 3), (10, .if_icmp .lt 7, 3), (13, .iconst 1, 1), (14, .goto 4, 3), (17, .iconst 0, 1), (18, .putfield 78, 3), (21, .aload_n 0, 1), (22, .getfield 78, 3), (25, .ifCond .le 5, 3), (28, .iconst 0, 1), (29, .ireturn, 1), (30, .aload_n 0, 1), (31, .getfield 64, 3), (34, .iload_n 1, 1), (35, .baload, 1), (36, .sipush 255, 3), (39, .iand, 1), (40, .istore_n 3, 1), (41, .aload_n 0, 1), (42, .getfield 64, 3), (45, .iload_n 1, 1), (46, .iload_n 2, 1), (47, .i2b, 1), (48, .bastore, 1), (49, .iload_n 3, 1), (50, .ireturn, 1)]
theorem DX8_patch : ∀ q ∈ tX8_patch, decode cX8_patch q.1 = .ok (q.2.1, q.2.2) := by decide +kernel
abbrev wsX8_cut : List Cond := Cond.code yX8_cut cX8_cut 2 none :: gW
theorem eX8_cut : yX8_cut.cls ≠ "java/lang/invoke/MethodHandle" ∧ yX8_cut.cls ≠ "java/lang/invoke/VarHandle" ∧ (parseMethodDescriptor yX8_cut.desc).map (fun d => d.parameters.length) = some 1 := by decide +kernel
def tX8_cut : List (Nat × Instr × Nat) := [(0, .aload_n 0, 1), (1, .iload_n 1, 1), (2, .ifCond .lt 11, 3), (5, .iload_n 1, 1), (6, .aload_n 0, 1), (7, .getfield 147, 3), (10, .if_icmp .le 7, 3), (13, .iconst 1, 1), (14, .goto 4, 3), (17, .iconst 0, 1), (18, .putfield 78, 3), (21, .aload_n 0, 1), (22, .getfield 78, 3), (25, .ifCond .ne 8, 3), (28, .aload_n 0, 1), (29, .iload_n 1, 1), (30, .putfield 147, 3), (33, .return_, 1)]
theorem DX8_cut : ∀ q ∈ tX8_cut, decode cX8_cut q.1 = .ok (q.2.1, q.2.2) := by decide +kernel
abbrev wsX8_snap : List Cond := Cond.code yX8_snap cX8_snap 4 (some .long) :: gW
theorem eX8_snap : yX8_snap.cls ≠ "java/lang/invoke/MethodHandle" ∧ yX8_snap.cls ≠ "java/lang/invoke/VarHandle" ∧ (parseMethodDescriptor yX8_snap.desc).map (fun d => d.parameters.length) = some 3 := by decide +kernel
def tX8_snap : List (Nat × Instr × Nat) := [(0, .aload_n 0, 1), (1, .iconst 0, 1), (2, .putfield 78, 3), (5, .iload_n 1, 1), (6, .invokestatic 82, 3), (9, .ifCond .eq 12, 3), (12, .aload_n 0, 1), (13, .iload_n 1, 1), (14, .iload_n 2, 1), (15, .invokevirtual 141, 3), (18, .ifCond .ne 7, 3), (21, .ldc2_w 209, 3), (24, .lreturn, 1), (25, .iload_n 3, 1), (26, .tableswitch 85 0 3 #[30, 42, 55, 70], 30), (56, .aload_n 0, 1), (57, .getfield 45, 3), (60, .bipush 20, 2), (62, .iload_n 1, 1), (63, .imul, 1), (64, .iload_n 2, 1), (65, .iadd, 1), (66, .laload, 1), (67, .lreturn, 1), (68, .aload_n 0, 1), (69, .getfield 42, 3), (72, .bipush 20, 2), (74, .iload_n 1, 1), (75, .imul, 1), (76, .iload_n 2, 1), (77, .iadd, 1), (78, .iaload, 1), (79, .i2l, 1), (80, .lreturn, 1), (81, .aload_n 0, 1), (82, .getfield 30, 3), (85, .bipush 22, 2), (87, .iload_n 1, 1), (88, .imul, 1), (89, .iconst 2, 1), (90, .iadd, 1), (91, .iload_n 2, 1), (92, .iadd, 1), (93, .iaload, 1), (94, .i2l, 1), (95, .lreturn, 1), (96, .aload_n 0, 1), (97, .getfield 33, 3), (100, .bipush 22, 2), (102, .iload_n 1, 1), (103, .imul, 1), (104, .iconst 2, 1), (105, .iadd, 1), (106, .iload_n 2, 1), (107, .iadd, 1), (108, .iaload, 1), (109, .i2l, 1), (110, .lreturn, 1), (111, .ldc2_w 209, 3), (114, .lreturn, 1)]
theorem DX8_snap : ∀ q ∈ tX8_snap, decode cX8_snap q.1 = .ok (q.2.1, q.2.2) := by decide +kernel
abbrev wsX8_isBlock : List Cond := Cond.code yX8_isBlock cX8_isBlock 3 (some .boolean) :: gW
theorem eX8_isBlock : yX8_isBlock.cls ≠ "java/lang/invoke/MethodHandle" ∧ yX8_isBlock.cls ≠ "java/lang/invoke/VarHandle" ∧ (parseMethodDescriptor yX8_isBlock.desc).map (fun d => d.parameters.length) = some 2 := by decide +kernel
def tX8_isBlock : List (Nat × Instr × Nat) := [(0, .iload_n 1, 1), (1, .invokestatic 82, 3), (4, .ifCond .eq 21, 3), (7, .iload_n 2, 1), (8, .ifCond .lt 17, 3), (11, .iload_n 2, 1), (12, .aload_n 0, 1), (13, .getfield 9, 3), (16, .iload_n 1, 1), (17, .iaload, 1), (18, .if_icmp .ge 7, 3), (21, .iconst 1, 1), (22, .goto 4, 3), (25, .iconst 0, 1), (26, .ireturn, 1)]
theorem DX8_isBlock : ∀ q ∈ tX8_isBlock, decode cX8_isBlock q.1 = .ok (q.2.1, q.2.2) := by decide +kernel
abbrev wsX8_block : List Cond := Cond.code yX8_block cX8_block 8 (some .int) :: gW
theorem eX8_block : yX8_block.cls ≠ "java/lang/invoke/MethodHandle" ∧ yX8_block.cls ≠ "java/lang/invoke/VarHandle" ∧ (parseMethodDescriptor yX8_block.desc).map (fun d => d.parameters.length) = some 3 := by decide +kernel
def tX8_block : List (Nat × Instr × Nat) := [(0, .aload_n 0, 1), (1, .iconst 0, 1), (2, .putfield 78, 3), (5, .aload_n 0, 1), (6, .iload_n 1, 1), (7, .iload_n 2, 1), (8, .invokevirtual 211, 3), (11, .ifCond .eq 12, 3), (14, .iload_n 3, 1), (15, .ifCond .lt 8, 3), (18, .iload_n 3, 1), (19, .iconst 2, 1), (20, .if_icmp .le 5, 3), (23, .iconst (-1), 1), (24, .ireturn, 1), (25, .aload_n 0, 1), (26, .getfield 13, 3), (29, .sipush 600, 3), (32, .iload_n 1, 1), (33, .imul, 1), (34, .iload_n 2, 1), (35, .iadd, 1), (36, .iaload, 1), (37, .istore 4, 2), (39, .iload_n 3, 1), (40, .ifCond .ne 6, 3), (43, .iload 4, 2), (45, .ireturn, 1), (46, .iconst 0, 1), (47, .istore 5, 2), (49, .iconst (-1), 1), (50, .istore 6, 2), (52, .iconst 0, 1), (53, .istore 7, 2), (55, .iload 7, 2), (57, .bipush 22, 2), (59, .if_icmp .ge 61, 3), (62, .iload 4, 2), (64, .iconst (-1), 1), (65, .if_icmp .eq 55, 3), (68, .aload_n 0, 1), (69, .iload_n 1, 1), (70, .iload 7, 2), (72, .invokevirtual 86, 3), (75, .ifCond .eq 39, 3), (78, .aload_n 0, 1), (79, .getfield 30, 3), (82, .bipush 22, 2), (84, .iload_n 1, 1), (85, .imul, 1), (86, .iload 7, 2), (88, .iadd, 1), (89, .iaload, 1), (90, .iload_n 2, 1), (91, .if_icmp .eq 6, 3), (94, .goto 20, 3), (97, .iinc 5 1, 3), (100, .aload_n 0, 1), (101, .getfield 33, 3), (104, .bipush 22, 2), (106, .iload_n 1, 1), (107, .imul, 1), (108, .iload 7, 2), (110, .iadd, 1), (111, .iaload, 1), (112, .istore 6, 2), (114, .iinc 7 1, 3), (117, .goto (-62), 3), (120, .iconst 0, 1), (121, .istore 7, 2), (123, .iload 7, 2), (125, .bipush 8, 2), (127, .aload_n 0, 1), (128, .getfield 9, 3), (131, .iload_n 1, 1), (132, .iaload, 1), (133, .imul, 1), (134, .if_icmp .ge 61, 3), (137, .iload 4, 2), (139, .iconst (-1), 1), (140, .if_icmp .eq 55, 3), (143, .aload_n 0, 1), (144, .getfield 13, 3), (147, .sipush 600, 3), (150, .iload_n 1, 1), (151, .imul, 1), (152, .iload 7, 2), (154, .bipush 8, 2), (156, .idiv, 1), (157, .iadd, 1), (158, .iaload, 1), (159, .iconst 1, 1), (160, .if_icmp .lt 29, 3), (163, .aload_n 0, 1), (164, .iload_n 1, 1), (165, .iload 7, 2), (167, .invokevirtual 90, 3), (170, .iload_n 2, 1), (171, .if_icmp .eq 6, 3), (174, .goto 15, 3), (177, .iinc 5 1, 3), (180, .aload_n 0, 1), (181, .iload_n 1, 1), (182, .iload 7, 2), (184, .invokevirtual 97, 3), (187, .istore 6, 2), (189, .iinc 7 1, 3), (192, .goto (-69), 3), (195, .iload_n 3, 1), (196, .iconst 1, 1), (197, .if_icmp .ne 8, 3), (200, .iload 6, 2), (202, .goto 5, 3), (205, .iload 5, 2), (207, .ireturn, 1)]
theorem DX8_block : ∀ q ∈ tX8_block, decode cX8_block q.1 = .ok (q.2.1, q.2.2) := by decide +kernel
abbrev wsX8_pointer : List Cond := Cond.code yX8_pointer cX8_pointer 5 (some .int) :: gW
theorem eX8_pointer : yX8_pointer.cls ≠ "java/lang/invoke/MethodHandle" ∧ yX8_pointer.cls ≠ "java/lang/invoke/VarHandle" ∧ (parseMethodDescriptor yX8_pointer.desc).map (fun d => d.parameters.length) = some 4 := by decide +kernel
def tX8_pointer : List (Nat × Instr × Nat) := [(0, .aload_n 0, 1), (1, .iconst 0, 1), (2, .putfield 78, 3), (5, .aload_n 0, 1), (6, .iload_n 1, 1), (7, .iload_n 2, 1), (8, .invokevirtual 211, 3), (11, .ifCond .eq 29, 3), (14, .aload_n 0, 1), (15, .getfield 13, 3), (18, .sipush 600, 3), (21, .iload_n 1, 1), (22, .imul, 1), (23, .iload_n 2, 1), (24, .iadd, 1), (25, .iaload, 1), (26, .iconst 1, 1), (27, .if_icmp .lt 13, 3), (30, .iload_n 3, 1), (31, .ifCond .lt 9, 3), (34, .iload_n 3, 1), (35, .bipush 7, 2), (37, .if_icmp .le 5, 3), (40, .iconst (-1), 1), (41, .ireturn, 1), (42, .iload 4, 2), (44, .ifCond .ne 17, 3), (47, .aload_n 0, 1), (48, .iload_n 1, 1), (49, .bipush 8, 2), (51, .iload_n 2, 1), (52, .imul, 1), (53, .iload_n 3, 1), (54, .iadd, 1), (55, .invokevirtual 90, 3), (58, .goto 24, 3), (61, .iload 4, 2), (63, .iconst 1, 1), (64, .if_icmp .ne 17, 3), (67, .aload_n 0, 1), (68, .iload_n 1, 1), (69, .bipush 8, 2), (71, .iload_n 2, 1), (72, .imul, 1), (73, .iload_n 3, 1), (74, .iadd, 1), (75, .invokevirtual 97, 3), (78, .goto 4, 3), (81, .iconst (-1), 1), (82, .ireturn, 1)]
theorem DX8_pointer : ∀ q ∈ tX8_pointer, decode cX8_pointer q.1 = .ok (q.2.1, q.2.2) := by decide +kernel
abbrev wsX8_data : List Cond := Cond.code yX8_data cX8_data 3 (some .long) :: gW
theorem eX8_data : yX8_data.cls ≠ "java/lang/invoke/MethodHandle" ∧ yX8_data.cls ≠ "java/lang/invoke/VarHandle" ∧ (parseMethodDescriptor yX8_data.desc).map (fun d => d.parameters.length) = some 2 := by decide +kernel
def tX8_data : List (Nat × Instr × Nat) := [(0, .aload_n 0, 1), (1, .iconst 0, 1), (2, .putfield 78, 3), (5, .aload_n 0, 1), (6, .iload_n 1, 1), (7, .iload_n 2, 1), (8, .invokevirtual 211, 3), (11, .ifCond .eq 33, 3), (14, .aload_n 0, 1), (15, .getfield 13, 3), (18, .sipush 600, 3), (21, .iload_n 1, 1), (22, .imul, 1), (23, .iload_n 2, 1), (24, .iadd, 1), (25, .iaload, 1), (26, .ifCond .ne 18, 3), (29, .aload_n 0, 1), (30, .getfield 22, 3), (33, .sipush 600, 3), (36, .iload_n 1, 1), (37, .imul, 1), (38, .iload_n 2, 1), (39, .iadd, 1), (40, .laload, 1), (41, .goto 4, 3), (44, .lconst 0, 1), (45, .lreturn, 1)]
theorem DX8_data : ∀ q ∈ tX8_data, decode cX8_data q.1 = .ok (q.2.1, q.2.2) := by decide +kernel
abbrev wsX8_look : List Cond := Cond.code yX8_look cX8_look 4 (some .int) :: gW
theorem eX8_look : yX8_look.cls ≠ "java/lang/invoke/MethodHandle" ∧ yX8_look.cls ≠ "java/lang/invoke/VarHandle" ∧ (parseMethodDescriptor yX8_look.desc).map (fun d => d.parameters.length) = some 2 := by decide +kernel
def tX8_look : List (Nat × Instr × Nat) := [(0, .aload_n 0, 1), (1, .iconst 0, 1), (2, .putfield 78, 3), (5, .iload_n 1, 1), (6, .invokestatic 82, 3), (9, .ifCond .ne 5, 3), (12, .iconst (-1), 1), (13, .ireturn, 1), (14, .iload_n 1, 1), (15, .istore_n 3, 1), (16, .aload_n 0, 1), (17, .iload_n 3, 1), (18, .invokevirtual 127, 3), (21, .iload_n 2, 1), (22, .tableswitch 148 0 8 #[50, 57, 63, 70, 77, 92, 104, 116, 141], 50), (72, .aload_n 0, 1), (73, .getfield 9, 3), (76, .iload_n 3, 1), (77, .iaload, 1), (78, .ireturn, 1), (79, .aload_n 0, 1), (80, .iload_n 3, 1), (81, .invokevirtual 114, 3), (84, .ireturn, 1), (85, .aload_n 0, 1), (86, .getfield 36, 3), (89, .iload_n 3, 1), (90, .iaload, 1), (91, .ireturn, 1), (92, .aload_n 0, 1), (93, .getfield 39, 3), (96, .iload_n 3, 1), (97, .iaload, 1), (98, .ireturn, 1), (99, .aload_n 0, 1), (100, .getfield 48, 3), (103, .iload_n 3, 1), (104, .baload, 1), (105, .ifCond .eq 7, 3), (108, .iconst 1, 1), (109, .goto 4, 3), (112, .iconst 0, 1), (113, .ireturn, 1), (114, .aload_n 0, 1), (115, .getfield 30, 3), (118, .bipush 22, 2), (120, .iload_n 3, 1), (121, .imul, 1), (122, .iconst 0, 1), (123, .iadd, 1), (124, .iaload, 1), (125, .ireturn, 1), (126, .aload_n 0, 1), (127, .getfield 33, 3), (130, .bipush 22, 2), (132, .iload_n 3, 1), (133, .imul, 1), (134, .iconst 0, 1), (135, .iadd, 1), (136, .iaload, 1), (137, .ireturn, 1), (138, .aload_n 0, 1), (139, .getfield 48, 3), (142, .iload_n 3, 1), (143, .baload, 1), (144, .ifCond .eq 17, 3), (147, .aload_n 0, 1), (148, .getfield 30, 3), (151, .bipush 22, 2), (153, .iload_n 3, 1), (154, .imul, 1), (155, .iconst 1, 1), (156, .iadd, 1), (157, .iaload, 1), (158, .goto 4, 3), (161, .iconst (-1), 1), (162, .ireturn, 1), (163, .aload_n 0, 1), (164, .getfield 54, 3), (167, .iload_n 3, 1), (168, .iaload, 1), (169, .ireturn, 1), (170, .iconst (-1), 1), (171, .ireturn, 1)]
theorem DX8_look : ∀ q ∈ tX8_look, decode cX8_look q.1 = .ok (q.2.1, q.2.2) := by decide +kernel
abbrev wsX8_sent : List Cond := Cond.code yX8_sent cX8_sent 2 (some .int) :: gW
theorem eX8_sent : yX8_sent.cls ≠ "java/lang/invoke/MethodHandle" ∧ yX8_sent.cls ≠ "java/lang/invoke/VarHandle" ∧ (parseMethodDescriptor yX8_sent.desc).map (fun d => d.parameters.length) = some 1 := by decide +kernel
def tX8_sent : List (Nat × Instr × Nat) := [(0, .aload_n 0, 1), (1, .iconst 0, 1), (2, .putfield 78, 3), (5, .iload_n 1, 1), (6, .tableswitch 60 0 4 #[34, 39, 44, 49, 54], 34), (40, .aload_n 0, 1), (41, .getfield 178, 3), (44, .ireturn, 1), (45, .aload_n 0, 1), (46, .getfield 171, 3), (49, .ireturn, 1), (50, .aload_n 0, 1), (51, .getfield 173, 3), (54, .ireturn, 1), (55, .aload_n 0, 1), (56, .getfield 147, 3), (59, .ireturn, 1), (60, .aload_n 0, 1), (61, .getfield 60, 3), (64, .l2i, 1), (65, .ireturn, 1), (66, .iconst (-1), 1), (67, .ireturn, 1)]
theorem DX8_sent : ∀ q ∈ tX8_sent, decode cX8_sent q.1 = .ok (q.2.1, q.2.2) := by decide +kernel
abbrev wsJ9_max_7cf53 : List Cond := Cond.code yJ9_max_7cf53 cJ9_max_7cf53 2 (some .int) :: gW
theorem eJ9_max_7cf53 : yJ9_max_7cf53.cls ≠ "java/lang/invoke/MethodHandle" ∧ yJ9_max_7cf53.cls ≠ "java/lang/invoke/VarHandle" ∧ (parseMethodDescriptor yJ9_max_7cf53.desc).map (fun d => d.parameters.length) = some 2 := by decide +kernel
def tJ9_max_7cf53 : List (Nat × Instr × Nat) := [(0, .iload_n 0, 1), (1, .iload_n 1, 1), (2, .if_icmp .lt 7, 3), (5, .iload_n 0, 1), (6, .goto 4, 3), (9, .iload_n 1, 1), (10, .ireturn, 1)]
theorem DJ9_max_7cf53 : ∀ q ∈ tJ9_max_7cf53, decode cJ9_max_7cf53 q.1 = .ok (q.2.1, q.2.2) := by decide +kernel
abbrev wsJ7_fill_53178 : List Cond := Cond.code yJ7_fill_53178 cJ7_fill_53178 4 none :: gW
theorem eJ7_fill_53178 : yJ7_fill_53178.cls ≠ "java/lang/invoke/MethodHandle" ∧ yJ7_fill_53178.cls ≠ "java/lang/invoke/VarHandle" ∧ (parseMethodDescriptor yJ7_fill_53178.desc).map (fun d => d.parameters.length) = some 2 := by decide +kernel
def tJ7_fill_53178 : List (Nat × Instr × Nat) := [(0, .iconst 0, 1), (1, .istore_n 2, 1), (2, .aload_n 0, 1), (3, .arraylength, 1), (4, .istore_n 3, 1), (5, .iload_n 2, 1), (6, .iload_n 3, 1), (7, .if_icmp .ge 13, 3), (10, .aload_n 0, 1), (11, .iload_n 2, 1), (12, .iload_n 1, 1), (13, .iastore, 1), (14, .iinc 2 1, 3), (17, .goto (-12), 3), (20, .return_, 1)]
theorem DJ7_fill_53178 : ∀ q ∈ tJ7_fill_53178, decode cJ7_fill_53178 q.1 = .ok (q.2.1, q.2.2) := by decide +kernel
abbrev wsL_format : List Cond := Cond.code yL_format cL_format 4 (some .int) :: gW
def tL_format : List (Nat × Instr × Nat) := [(0, .aload_n 0, 1), (1, .iload_n 1, 1), (2, .iload_n 2, 1), (3, .invokevirtual 7, 3), (6, .goto 6, 3), (9, .astore_n 3, 1), (10, .iconst 1, 1), (11, .ireturn, 1), (12, .iconst 0, 1), (13, .ireturn, 1)]
theorem DL_format : ∀ q ∈ tL_format, decode cL_format q.1 = .ok (q.2.1, q.2.2) := by decide +kernel
abbrev wsL_write : List Cond := Cond.code yL_write cL_write 7 (some .int) :: gW
def tL_write : List (Nat × Instr × Nat) := [(0, .aload 5, 2), (2, .iconst 0, 1), (3, .aload_n 0, 1), (4, .iload_n 1, 1), (5, .iload_n 2, 1), (6, .lload_n 3, 1), (7, .invokevirtual 15, 3), (10, .i2l, 1), (11, .lastore, 1), (12, .goto 7, 3), (15, .astore 6, 2), (17, .iconst 1, 1), (18, .ireturn, 1), (19, .iconst 0, 1), (20, .ireturn, 1)]
theorem DL_write : ∀ q ∈ tL_write, decode cL_write q.1 = .ok (q.2.1, q.2.2) := by decide +kernel
abbrev wsL_clear : List Cond := Cond.code yL_clear cL_clear 5 (some .int) :: gW
def tL_clear : List (Nat × Instr × Nat) := [(0, .aload_n 3, 1), (1, .iconst 0, 1), (2, .aload_n 0, 1), (3, .iload_n 1, 1), (4, .iload_n 2, 1), (5, .invokevirtual 19, 3), (8, .i2l, 1), (9, .lastore, 1), (10, .goto 7, 3), (13, .astore 4, 2), (15, .iconst 1, 1), (16, .ireturn, 1), (17, .iconst 0, 1), (18, .ireturn, 1)]
theorem DL_clear : ∀ q ∈ tL_clear, decode cL_clear q.1 = .ok (q.2.1, q.2.2) := by decide +kernel
abbrev wsL_read : List Cond := Cond.code yL_read cL_read 6 (some .int) :: gW
def tL_read : List (Nat × Instr × Nat) := [(0, .aload 4, 2), (2, .iconst 0, 1), (3, .aload_n 0, 1), (4, .iload_n 1, 1), (5, .iload_n 2, 1), (6, .iload_n 3, 1), (7, .invokevirtual 23, 3), (10, .lastore, 1), (11, .goto 11, 3), (14, .astore 5, 2), (16, .iconst 1, 1), (17, .ireturn, 1), (18, .astore 5, 2), (20, .iconst 2, 1), (21, .ireturn, 1), (22, .iconst 0, 1), (23, .ireturn, 1)]
theorem DL_read : ∀ q ∈ tL_read, decode cL_read q.1 = .ok (q.2.1, q.2.2) := by decide +kernel
abbrev wsL_snapshot : List Cond := Cond.code yL_snapshot cL_snapshot 4 (some .int) :: gW
def tL_snapshot : List (Nat × Instr × Nat) := [(0, .aload_n 2, 1), (1, .iconst 0, 1), (2, .aload_n 0, 1), (3, .iload_n 1, 1), (4, .invokevirtual 29, 3), (7, .i2l, 1), (8, .lastore, 1), (9, .goto 12, 3), (12, .astore_n 3, 1), (13, .iconst 1, 1), (14, .ireturn, 1), (15, .astore_n 3, 1), (16, .iconst 2, 1), (17, .ireturn, 1), (18, .astore_n 3, 1), (19, .iconst 3, 1), (20, .ireturn, 1), (21, .iconst 0, 1), (22, .ireturn, 1)]
theorem DL_snapshot : ∀ q ∈ tL_snapshot, decode cL_snapshot q.1 = .ok (q.2.1, q.2.2) := by decide +kernel
abbrev wsL_destroy : List Cond := Cond.code yL_destroy cL_destroy 5 (some .int) :: gW
def tL_destroy : List (Nat × Instr × Nat) := [(0, .aload_n 3, 1), (1, .iconst 0, 1), (2, .aload_n 0, 1), (3, .iload_n 1, 1), (4, .iload_n 2, 1), (5, .invokevirtual 37, 3), (8, .i2l, 1), (9, .lastore, 1), (10, .goto 15, 3), (13, .astore 4, 2), (15, .iconst 1, 1), (16, .ireturn, 1), (17, .astore 4, 2), (19, .iconst 2, 1), (20, .ireturn, 1), (21, .astore 4, 2), (23, .iconst 3, 1), (24, .ireturn, 1), (25, .iconst 0, 1), (26, .ireturn, 1)]
theorem DL_destroy : ∀ q ∈ tL_destroy, decode cL_destroy q.1 = .ok (q.2.1, q.2.2) := by decide +kernel
abbrev wsL_rollback : List Cond := Cond.code yL_rollback cL_rollback 4 (some .int) :: gW
def tL_rollback : List (Nat × Instr × Nat) := [(0, .aload_n 2, 1), (1, .iconst 0, 1), (2, .aload_n 0, 1), (3, .iload_n 1, 1), (4, .invokevirtual 40, 3), (7, .i2l, 1), (8, .lastore, 1), (9, .goto 12, 3), (12, .astore_n 3, 1), (13, .iconst 1, 1), (14, .ireturn, 1), (15, .astore_n 3, 1), (16, .iconst 2, 1), (17, .ireturn, 1), (18, .astore_n 3, 1), (19, .iconst 3, 1), (20, .ireturn, 1), (21, .iconst 0, 1), (22, .ireturn, 1)]
theorem DL_rollback : ∀ q ∈ tL_rollback, decode cL_rollback q.1 = .ok (q.2.1, q.2.2) := by decide +kernel
abbrev wsL_send : List Cond := Cond.code yL_send cL_send 6 (some .int) :: gW
def tL_send : List (Nat × Instr × Nat) := [(0, .aload 4, 2), (2, .iconst 0, 1), (3, .aload_n 0, 1), (4, .iload_n 1, 1), (5, .iload_n 2, 1), (6, .iload_n 3, 1), (7, .invokevirtual 43, 3), (10, .i2l, 1), (11, .lastore, 1), (12, .goto 15, 3), (15, .astore 5, 2), (17, .iconst 1, 1), (18, .ireturn, 1), (19, .astore 5, 2), (21, .iconst 2, 1), (22, .ireturn, 1), (23, .astore 5, 2), (25, .iconst 3, 1), (26, .ireturn, 1), (27, .iconst 0, 1), (28, .ireturn, 1)]
theorem DL_send : ∀ q ∈ tL_send, decode cL_send q.1 = .ok (q.2.1, q.2.2) := by decide +kernel
abbrev wsL_receive : List Cond := Cond.code yL_receive cL_receive 4 (some .int) :: gW
def tL_receive : List (Nat × Instr × Nat) := [(0, .aload_n 2, 1), (1, .iconst 0, 1), (2, .aload_n 0, 1), (3, .iload_n 1, 1), (4, .invokevirtual 47, 3), (7, .i2l, 1), (8, .lastore, 1), (9, .goto 6, 3), (12, .astore_n 3, 1), (13, .iconst 1, 1), (14, .ireturn, 1), (15, .iconst 0, 1), (16, .ireturn, 1)]
theorem DL_receive : ∀ q ∈ tL_receive, decode cL_receive q.1 = .ok (q.2.1, q.2.2) := by decide +kernel
abbrev wsL_step : List Cond := Cond.code yL_step cL_step 5 (some .int) :: gW
def tL_step : List (Nat × Instr × Nat) := [(0, .aload_n 3, 1), (1, .iconst 0, 1), (2, .aload_n 0, 1), (3, .iload_n 1, 1), (4, .iload_n 2, 1), (5, .invokevirtual 50, 3), (8, .i2l, 1), (9, .lastore, 1), (10, .goto 11, 3), (13, .astore 4, 2), (15, .iconst 1, 1), (16, .ireturn, 1), (17, .astore 4, 2), (19, .iconst 2, 1), (20, .ireturn, 1), (21, .iconst 0, 1), (22, .ireturn, 1)]
theorem DL_step : ∀ q ∈ tL_step, decode cL_step q.1 = .ok (q.2.1, q.2.2) := by decide +kernel
abbrev wsL_crash : List Cond := Cond.code yL_crash cL_crash 4 (some .int) :: gW
def tL_crash : List (Nat × Instr × Nat) := [(0, .aload_n 2, 1), (1, .iconst 0, 1), (2, .aload_n 0, 1), (3, .iload_n 1, 1), (4, .invokevirtual 53, 3), (7, .ifCond .eq 7, 3), (10, .lconst 1, 1), (11, .goto 4, 3), (14, .lconst 0, 1), (15, .lastore, 1), (16, .goto 6, 3), (19, .astore_n 3, 1), (20, .iconst 1, 1), (21, .ireturn, 1), (22, .iconst 0, 1), (23, .ireturn, 1)]
theorem DL_crash : ∀ q ∈ tL_crash, decode cL_crash q.1 = .ok (q.2.1, q.2.2) := by decide +kernel
abbrev wsL_patch : List Cond := Cond.code yL_patch cL_patch 5 (some .int) :: gW
def tL_patch : List (Nat × Instr × Nat) := [(0, .aload_n 3, 1), (1, .iconst 0, 1), (2, .aload_n 0, 1), (3, .iload_n 1, 1), (4, .iload_n 2, 1), (5, .invokevirtual 57, 3), (8, .i2l, 1), (9, .lastore, 1), (10, .goto 7, 3), (13, .astore 4, 2), (15, .iconst 1, 1), (16, .ireturn, 1), (17, .iconst 0, 1), (18, .ireturn, 1)]
theorem DL_patch : ∀ q ∈ tL_patch, decode cL_patch q.1 = .ok (q.2.1, q.2.2) := by decide +kernel
abbrev wsL_cut : List Cond := Cond.code yL_cut cL_cut 3 (some .int) :: gW
def tL_cut : List (Nat × Instr × Nat) := [(0, .aload_n 0, 1), (1, .iload_n 1, 1), (2, .invokevirtual 60, 3), (5, .goto 6, 3), (8, .astore_n 2, 1), (9, .iconst 1, 1), (10, .ireturn, 1), (11, .iconst 0, 1), (12, .ireturn, 1)]
theorem DL_cut : ∀ q ∈ tL_cut, decode cL_cut q.1 = .ok (q.2.1, q.2.2) := by decide +kernel