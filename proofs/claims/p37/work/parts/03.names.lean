def RX0 : String := "StockEvents$Batch"
def TX0 : u_T := fun k => match k with
  | 0 => ("StockEvents$Batch", "streams", "[I", true)
  | 1 => ("StockEvents$Batch", "commands", "[LStockEvents$Command;", true)
  | 2 => ("StockEvents$Batch", "bins", "LStockEvents$Bins;", true)
  | 3 => ("StockEvents$Batch", "size", "I", false)
  | 4 => ("StockEvents$Batch", "through", "I", false)
  | 5 => ("StockEvents$Batch", "events", "I", false)
  | _ => ("StockEvents$Batch", "refused", "Z", false)
def tyX0 : Nat → FieldType := fun k => match k with
  | 0 => .array .int
  | 1 => .array (.object "StockEvents$Command")
  | 2 => .object "StockEvents$Bins"
  | 3 => .int
  | 4 => .int
  | 5 => .int
  | _ => .boolean
theorem nmX0 : ∀ a, a < 7 → ∀ b, b < 7 → a ≠ b → (TX0 a).2.1 ≠ (TX0 b).2.1 := by decide +kernel
theorem tyX0_ok : ∀ k, k < 7 → parseFieldDescriptor (TX0 k).2.2.1 = some (tyX0 k) := by decide +kernel
def RX1 : String := "StockEvents$Bins"
def TX1 : u_T := fun k => match k with
  | _ => ("StockEvents$Bins", "cells", "[I", true)
def tyX1 : Nat → FieldType := fun k => match k with
  | _ => .array .int
theorem nmX1 : ∀ a, a < 1 → ∀ b, b < 1 → a ≠ b → (TX1 a).2.1 ≠ (TX1 b).2.1 := by decide +kernel
theorem tyX1_ok : ∀ k, k < 1 → parseFieldDescriptor (TX1 k).2.2.1 = some (tyX1 k) := by decide +kernel
def RX2 : String := "StockEvents$Command"
def TX2 : u_T := fun k => match k with
  | 0 => ("StockEvents$Command", "kind", "I", true)
  | 1 => ("StockEvents$Command", "amount", "I", true)
  | 2 => ("StockEvents$Command", "target", "I", true)
  | _ => ("StockEvents$Command", "formula", "LStockEvents$Formula;", true)
def tyX2 : Nat → FieldType := fun k => match k with
  | 0 => .int
  | 1 => .int
  | 2 => .int
  | _ => .object "StockEvents$Formula"
theorem nmX2 : ∀ a, a < 4 → ∀ b, b < 4 → a ≠ b → (TX2 a).2.1 ≠ (TX2 b).2.1 := by decide +kernel
theorem tyX2_ok : ∀ k, k < 4 → parseFieldDescriptor (TX2 k).2.2.1 = some (tyX2 k) := by decide +kernel
def RX3 : String := "StockEvents$Formats"
def TX3 : u_T := fun k => match k with
  | 0 => ("StockEvents$Formats", "sizes", "[I", true)
  | 1 => ("StockEvents$Formats", "toA", "[LStockEvents$Formula;", true)
  | 2 => ("StockEvents$Formats", "toB", "[LStockEvents$Formula;", true)
  | 3 => ("StockEvents$Formats", "letters", "[I", true)
  | _ => ("StockEvents$Formats", "era", "I", false)
def tyX3 : Nat → FieldType := fun k => match k with
  | 0 => .array .int
  | 1 => .array (.object "StockEvents$Formula")
  | 2 => .array (.object "StockEvents$Formula")
  | 3 => .array .int
  | _ => .int
theorem nmX3 : ∀ a, a < 5 → ∀ b, b < 5 → a ≠ b → (TX3 a).2.1 ≠ (TX3 b).2.1 := by decide +kernel
theorem tyX3_ok : ∀ k, k < 5 → parseFieldDescriptor (TX3 k).2.2.1 = some (tyX3 k) := by decide +kernel
def RX4 : String := "StockEvents$Formula"
def TX4 : u_T := fun k => match k with
  | 0 => ("StockEvents$Formula", "code", "[I", true)
  | _ => ("StockEvents$Formula", "stack", "[I", true)
def tyX4 : Nat → FieldType := fun k => match k with
  | 0 => .array .int
  | _ => .array .int
theorem nmX4 : ∀ a, a < 2 → ∀ b, b < 2 → a ≠ b → (TX4 a).2.1 ≠ (TX4 b).2.1 := by decide +kernel
theorem tyX4_ok : ∀ k, k < 2 → parseFieldDescriptor (TX4 k).2.2.1 = some (tyX4 k) := by decide +kernel
def RX5 : String := "StockEvents$Log"
def TX5 : u_T := fun k => match k with
  | 0 => ("StockEvents$Log", "cells", "[I", true)
  | 1 => ("StockEvents$Log", "versions", "[I", true)
  | 2 => ("StockEvents$Log", "line", "[I", true)
  | 3 => ("StockEvents$Log", "lineLength", "I", false)
  | _ => ("StockEvents$Log", "length", "I", false)
def tyX5 : Nat → FieldType := fun k => match k with
  | 0 => .array .int
  | 1 => .array .int
  | 2 => .array .int
  | 3 => .int
  | _ => .int
theorem nmX5 : ∀ a, a < 5 → ∀ b, b < 5 → a ≠ b → (TX5 a).2.1 ≠ (TX5 b).2.1 := by decide +kernel
theorem tyX5_ok : ∀ k, k < 5 → parseFieldDescriptor (TX5 k).2.2.1 = some (tyX5 k) := by decide +kernel
def RX6 : String := "StockEvents$Policy"
def TX6 : u_T := fun k => match k with
  | 0 => ("StockEvents$Policy", "kinds", "I", true)
  | 1 => ("StockEvents$Policy", "condition", "LStockEvents$Formula;", true)
  | 2 => ("StockEvents$Policy", "command", "LStockEvents$Command;", true)
  | 3 => ("StockEvents$Policy", "checkpoint", "I", false)
  | 4 => ("StockEvents$Policy", "done", "I", false)
  | _ => ("StockEvents$Policy", "refused", "I", false)
def tyX6 : Nat → FieldType := fun k => match k with
  | 0 => .int
  | 1 => .object "StockEvents$Formula"
  | 2 => .object "StockEvents$Command"
  | 3 => .int
  | 4 => .int
  | _ => .int
theorem nmX6 : ∀ a, a < 6 → ∀ b, b < 6 → a ≠ b → (TX6 a).2.1 ≠ (TX6 b).2.1 := by decide +kernel
theorem tyX6_ok : ∀ k, k < 6 → parseFieldDescriptor (TX6 k).2.2.1 = some (tyX6 k) := by decide +kernel
def RX7 : String := "StockEvents$Projection"
def TX7 : u_T := fun k => match k with
  | 0 => ("StockEvents$Projection", "fold", "I", true)
  | 1 => ("StockEvents$Projection", "kinds", "I", true)
  | 2 => ("StockEvents$Projection", "key", "I", true)
  | 3 => ("StockEvents$Projection", "condition", "LStockEvents$Formula;", true)
  | 4 => ("StockEvents$Projection", "rows", "[I", true)
  | 5 => ("StockEvents$Projection", "present", "I", false)
  | _ => ("StockEvents$Projection", "checkpoint", "I", false)
def tyX7 : Nat → FieldType := fun k => match k with
  | 0 => .int
  | 1 => .int
  | 2 => .int
  | 3 => .object "StockEvents$Formula"
  | 4 => .array .int
  | 5 => .int
  | _ => .int
theorem nmX7 : ∀ a, a < 7 → ∀ b, b < 7 → a ≠ b → (TX7 a).2.1 ≠ (TX7 b).2.1 := by decide +kernel
theorem tyX7_ok : ∀ k, k < 7 → parseFieldDescriptor (TX7 k).2.2.1 = some (tyX7 k) := by decide +kernel
def RX8 : String := "StockEvents$Snapshots"
def TX8 : u_T := fun k => match k with
  | 0 => ("StockEvents$Snapshots", "versions", "[I", true)
  | 1 => ("StockEvents$Snapshots", "eras", "[I", true)
  | _ => ("StockEvents$Snapshots", "sizes", "[I", true)
def tyX8 : Nat → FieldType := fun k => match k with
  | 0 => .array .int
  | 1 => .array .int
  | _ => .array .int
theorem nmX8 : ∀ a, a < 3 → ∀ b, b < 3 → a ≠ b → (TX8 a).2.1 ≠ (TX8 b).2.1 := by decide +kernel
theorem tyX8_ok : ∀ k, k < 3 → parseFieldDescriptor (TX8 k).2.2.1 = some (tyX8 k) := by decide +kernel
def RX9 : String := "StockEvents$Store"
def TX9 : u_T := fun k => match k with
  | 0 => ("StockEvents$Store", "log", "LStockEvents$Log;", true)
  | 1 => ("StockEvents$Store", "bins", "LStockEvents$Bins;", true)
  | 2 => ("StockEvents$Store", "past", "LStockEvents$Bins;", true)
  | 3 => ("StockEvents$Store", "formats", "LStockEvents$Formats;", true)
  | 4 => ("StockEvents$Store", "snapshots", "LStockEvents$Snapshots;", true)
  | 5 => ("StockEvents$Store", "answers", "[I", true)
  | 6 => ("StockEvents$Store", "live", "[LStockEvents$Projection;", true)
  | 7 => ("StockEvents$Store", "beside", "[LStockEvents$Projection;", true)
  | 8 => ("StockEvents$Store", "policies", "[LStockEvents$Policy;", true)
  | 9 => ("StockEvents$Store", "seenStream", "[I", true)
  | 10 => ("StockEvents$Store", "seenVersion", "[I", true)
  | 11 => ("StockEvents$Store", "led", "[I", true)
  | 12 => ("StockEvents$Store", "stateLetters", "[I", true)
  | 13 => ("StockEvents$Store", "every", "I", false)
  | _ => ("StockEvents$Store", "harmless", "I", false)
def tyX9 : Nat → FieldType := fun k => match k with
  | 0 => .object "StockEvents$Log"
  | 1 => .object "StockEvents$Bins"
  | 2 => .object "StockEvents$Bins"
  | 3 => .object "StockEvents$Formats"
  | 4 => .object "StockEvents$Snapshots"
  | 5 => .array .int
  | 6 => .array (.object "StockEvents$Projection")
  | 7 => .array (.object "StockEvents$Projection")
  | 8 => .array (.object "StockEvents$Policy")
  | 9 => .array .int
  | 10 => .array .int
  | 11 => .array .int
  | 12 => .array .int
  | 13 => .int
  | _ => .int
theorem nmX9 : ∀ a, a < 15 → ∀ b, b < 15 → a ≠ b → (TX9 a).2.1 ≠ (TX9 b).2.1 := by decide +kernel
theorem tyX9_ok : ∀ k, k < 15 → parseFieldDescriptor (TX9 k).2.2.1 = some (tyX9 k) := by decide +kernel
def RX10 : String := "StockEvents$Tape"
def TX10 : u_T := fun k => match k with
  | 0 => ("StockEvents$Tape", "bytes", "[I", true)
  | 1 => ("StockEvents$Tape", "code", "[I", true)
  | 2 => ("StockEvents$Tape", "letters", "Ljava/lang/String;", false)
  | 3 => ("StockEvents$Tape", "codeLength", "I", false)
  | 4 => ("StockEvents$Tape", "length", "I", false)
  | 5 => ("StockEvents$Tape", "place", "I", false)
  | _ => ("StockEvents$Tape", "fault", "I", false)
def tyX10 : Nat → FieldType := fun k => match k with
  | 0 => .array .int
  | 1 => .array .int
  | 2 => .object "java/lang/String"
  | 3 => .int
  | 4 => .int
  | 5 => .int
  | _ => .int
theorem nmX10 : ∀ a, a < 7 → ∀ b, b < 7 → a ≠ b → (TX10 a).2.1 ≠ (TX10 b).2.1 := by decide +kernel
theorem tyX10_ok : ∀ k, k < 7 → parseFieldDescriptor (TX10 k).2.2.1 = some (tyX10 k) := by decide +kernel
def RX11 : String := "StockEvents"
def TX11 : u_T := fun k => match k with
  | 0 => ("StockEvents", "tape", "LStockEvents$Tape;", true)
  | 1 => ("StockEvents", "lines", "LStockEvents$Batch;", true)
  | 2 => ("StockEvents", "store", "LStockEvents$Store;", true)
  | 3 => ("StockEvents", "kept", "LStockEvents$Store;", true)
  | _ => ("StockEvents", "imaged", "Z", false)
def tyX11 : Nat → FieldType := fun k => match k with
  | 0 => .object "StockEvents$Tape"
  | 1 => .object "StockEvents$Batch"
  | 2 => .object "StockEvents$Store"
  | 3 => .object "StockEvents$Store"
  | _ => .boolean
theorem nmX11 : ∀ a, a < 5 → ∀ b, b < 5 → a ≠ b → (TX11 a).2.1 ≠ (TX11 b).2.1 := by decide +kernel
theorem tyX11_ok : ∀ k, k < 5 → parseFieldDescriptor (TX11 k).2.2.1 = some (tyX11 k) := by decide +kernel
def RJ4 : String := "java/lang/StringBuilder"
def TJ4 : u_T := fun k => match k with
  | 0 => ("java/lang/AbstractStringBuilder", "value", "[B", false)
  | 1 => ("java/lang/AbstractStringBuilder", "coder", "B", false)
  | 2 => ("java/lang/AbstractStringBuilder", "maybeLatin1", "Z", false)
  | _ => ("java/lang/AbstractStringBuilder", "count", "I", false)
def tyJ4 : Nat → FieldType := fun k => match k with
  | 0 => .array .byte
  | 1 => .byte
  | 2 => .boolean
  | _ => .int
theorem nmJ4 : ∀ a, a < 4 → ∀ b, b < 4 → a ≠ b → (TJ4 a).2.1 ≠ (TJ4 b).2.1 := by decide +kernel
theorem tyJ4_ok : ∀ k, k < 4 → parseFieldDescriptor (TJ4 k).2.2.1 = some (tyJ4 k) := by decide +kernel
def RJ0 : String := "java/lang/String"
def TJ0 : u_T := fun k => match k with
  | 0 => ("java/lang/String", "value", "[B", true)
  | 1 => ("java/lang/String", "coder", "B", true)
  | 2 => ("java/lang/String", "hash", "I", false)
  | _ => ("java/lang/String", "hashIsZero", "Z", false)
def tyJ0 : Nat → FieldType := fun k => match k with
  | 0 => .array .byte
  | 1 => .byte
  | 2 => .int
  | _ => .boolean
theorem nmJ0 : ∀ a, a < 4 → ∀ b, b < 4 → a ≠ b → (TJ0 a).2.1 ≠ (TJ0 b).2.1 := by decide +kernel
theorem tyJ0_ok : ∀ k, k < 4 → parseFieldDescriptor (TJ0 k).2.2.1 = some (tyJ0 k) := by decide +kernel
abbrev vwCl : List vw_C := [(RX0, TX0, 7), (RX1, TX1, 1), (RX2, TX2, 4), (RX3, TX3, 5), (RX4, TX4, 2), (RX5, TX5, 5), (RX6, TX6, 6), (RX7, TX7, 7), (RX8, TX8, 3), (RX9, TX9, 15), (RX10, TX10, 7), (RX11, TX11, 5), (RJ4, TJ4, 4), (RJ0, TJ0, 4)]
def cNmL : List String := ["StockEvents$Batch", "StockEvents$Bins", "StockEvents$Command", "StockEvents$Formats", "StockEvents$Formula", "StockEvents$Log", "StockEvents$Policy", "StockEvents$Projection", "StockEvents$Snapshots", "StockEvents$Store", "StockEvents$Tape", "StockEvents", "java/lang/StringBuilder", "java/lang/String", "java/lang/StringLatin1", "java/lang/Integer", "java/lang/Math", "java/util/Arrays", "StockEventsLaw", "java/lang/AbstractStringBuilder", "jdk/internal/util/ArraysSupport"]
def cNm (c : Nat) : String := cNmL.getD c ""
/-! methods: name, bytecode, locals, what is returned -/
def mtd_0 : List (MethodName × ByteArray × Nat × Option FieldType) := [(⟨"StockEvents", "<init>", "()V"⟩, prog_1_method_1_code, 1, none),
  (⟨"StockEvents$Tape", "<init>", "()V"⟩, prog_12_method_1_code, 1, none),
  (⟨"StockEvents$Batch", "<init>", "()V"⟩, prog_2_method_1_code, 1, none),
  (⟨"StockEvents$Bins", "<init>", "()V"⟩, prog_3_method_1_code, 1, none),
  (⟨"StockEvents$Store", "<init>", "()V"⟩, prog_11_method_1_code, 1, none),
  (⟨"StockEvents$Log", "<init>", "()V"⟩, prog_7_method_1_code, 1, none),
  (⟨"StockEvents$Formats", "<init>", "()V"⟩, prog_5_method_1_code, 1, none),
  (⟨"java/lang/String", "length", "()I"⟩, prog_21_method_54_code, 1, (some FieldType.int)),
  (⟨"java/lang/String", "coder", "()B"⟩, prog_21_method_152_code, 1, (some FieldType.byte)),
  (⟨"StockEvents$Snapshots", "<init>", "()V"⟩, prog_10_method_1_code, 1, none),
  (⟨"java/util/Arrays", "fill", "([II)V"⟩, prog_26_method_103_code, 4, none),
  (⟨"StockEvents", "feed", "(I)I"⟩, prog_1_method_2_code, 2, (some FieldType.int)),
  (⟨"StockEvents", "within", "(III)Z"⟩, prog_1_method_39_code, 3, (some FieldType.boolean)),
  (⟨"StockEvents$Tape", "add", "(I)I"⟩, prog_12_method_2_code, 2, (some FieldType.int)),
  (⟨"StockEvents", "ask", "(III)I"⟩, prog_1_method_3_code, 6, (some FieldType.int)),
  (⟨"StockEvents", "isStream", "(I)Z"⟩, prog_1_method_37_code, 1, (some FieldType.boolean)),
  (⟨"StockEvents$Tape", "begin", "()V"⟩, prog_12_method_3_code, 1, none),
  (⟨"StockEvents$Tape", "command", "(Z)LStockEvents$Command;"⟩, prog_12_method_19_code, 6, (some (FieldType.object "StockEvents$Command"))),
  (⟨"StockEvents$Tape", "word", "(Ljava/lang/String;)I"⟩, prog_12_method_8_code, 7, (some FieldType.int)),
  (⟨"StockEvents$Tape", "wordEnd", "()I"⟩, prog_12_method_9_code, 2, (some FieldType.int)),
  (⟨"java/lang/String", "charAt", "(I)C"⟩, prog_21_method_56_code, 2, (some FieldType.char)),
  (⟨"java/lang/String", "isLatin1", "()Z"⟩, prog_21_method_154_code, 1, (some FieldType.boolean)),
  (⟨"java/lang/StringLatin1", "charAt", "([BI)C"⟩, prog_23_method_2_code, 2, (some FieldType.char)),
  (⟨"StockEvents$Tape", "isSame", "(Ljava/lang/String;III)Z"⟩, prog_12_method_10_code, 7, (some FieldType.boolean)),
  (⟨"StockEvents$Tape", "fail", "(I)V"⟩, prog_12_method_5_code, 2, none),
  (⟨"StockEvents$Command", "<init>", "(IIILStockEvents$Formula;)V"⟩, prog_4_method_1_code, 5, none),
  (⟨"StockEvents$Tape", "take", "(I)V"⟩, prog_12_method_7_code, 2, none),
  (⟨"StockEvents$Tape", "peek", "()I"⟩, prog_12_method_6_code, 1, (some FieldType.int)),
  (⟨"StockEvents$Tape", "formula", "(Ljava/lang/String;I)LStockEvents$Formula;"⟩, prog_12_method_13_code, 3, (some (FieldType.object "StockEvents$Formula"))),
  (⟨"StockEvents$Tape", "part", "(II)V"⟩, prog_12_method_14_code, 6, none),
  (⟨"StockEvents$Tape", "operand", "(I)V"⟩, prog_12_method_16_code, 3, none),
  (⟨"StockEvents$Tape", "isFigure", "(I)Z"⟩, prog_12_method_12_code, 1, (some FieldType.boolean)),
  (⟨"StockEvents$Tape", "number", "(I)I"⟩, prog_12_method_11_code, 5, (some FieldType.int)),
  (⟨"StockEvents$Tape", "emit", "(I)V"⟩, prog_12_method_18_code, 2, none),
  (⟨"StockEvents$Tape", "letter", "()V"⟩, prog_12_method_17_code, 2, none),
  (⟨"java/lang/String", "indexOf", "(I)I"⟩, prog_21_method_79_code, 2, (some FieldType.int)),
  (⟨"java/lang/String", "indexOf", "(II)I"⟩, prog_21_method_80_code, 3, (some FieldType.int)),
  (⟨"java/lang/StringLatin1", "indexOf", "([BIII)I"⟩, prog_23_method_22_code, 4, (some FieldType.int)),
  (⟨"java/lang/StringLatin1", "canEncode", "(I)Z"⟩, prog_23_method_4_code, 1, (some FieldType.boolean)),
  (⟨"java/lang/Math", "max", "(II)I"⟩, prog_19_method_65_code, 2, (some FieldType.int))]
def mtd_1 : List (MethodName × ByteArray × Nat × Option FieldType) := [(⟨"java/lang/Math", "min", "(II)I"⟩, prog_19_method_69_code, 2, (some FieldType.int)),
  (⟨"java/lang/StringLatin1", "indexOfChar", "([BIII)I"⟩, prog_23_method_23_code, 6, (some FieldType.int)),
  (⟨"StockEvents$Tape", "signsOf", "(I)Ljava/lang/String;"⟩, prog_12_method_15_code, 1, (some (FieldType.object "java/lang/String"))),
  (⟨"java/util/Arrays", "copyOf", "([II)[I"⟩, prog_26_method_123_code, 3, (some (FieldType.array FieldType.int))),
  (⟨"StockEvents$Formula", "<init>", "([I)V"⟩, prog_6_method_1_code, 2, none),
  (⟨"StockEvents$Tape", "end", "()I"⟩, prog_12_method_4_code, 1, (some FieldType.int)),
  (⟨"StockEvents$Store", "asked", "(IIILStockEvents$Command;)I"⟩, prog_11_method_4_code, 7, (some FieldType.int)),
  (⟨"StockEvents$Store", "tell", "(I)V"⟩, prog_11_method_3_code, 2, none),
  (⟨"StockEvents$Log", "versionOf", "(I)I"⟩, prog_7_method_6_code, 2, (some FieldType.int)),
  (⟨"StockEvents$Store", "carry", "(ILStockEvents$Command;I)I"⟩, prog_11_method_5_code, 5, (some FieldType.int)),
  (⟨"StockEvents$Bins", "refusal", "(ILStockEvents$Command;I)I"⟩, prog_3_method_8_code, 6, (some FieldType.int)),
  (⟨"StockEvents$Bins", "get", "(II)I"⟩, prog_3_method_4_code, 4, (some FieldType.int)),
  (⟨"StockEvents$Command", "events", "()I"⟩, prog_4_method_2_code, 1, (some FieldType.int)),
  (⟨"StockEvents$Log", "room", "()I"⟩, prog_7_method_4_code, 1, (some FieldType.int)),
  (⟨"StockEvents$Store", "come", "(IIII)V"⟩, prog_11_method_6_code, 6, none),
  (⟨"StockEvents$Formats", "formatOf", "(I)I"⟩, prog_5_method_3_code, 2, (some FieldType.int)),
  (⟨"StockEvents$Log", "add", "(IIIII)V"⟩, prog_7_method_7_code, 6, none),
  (⟨"StockEvents$Log", "put", "(II)V"⟩, prog_7_method_8_code, 4, none),
  (⟨"StockEvents$Bins", "change", "(III)V"⟩, prog_3_method_7_code, 4, none),
  (⟨"StockEvents$Bins", "put", "(III)V"⟩, prog_3_method_5_code, 5, none),
  (⟨"StockEvents$Bins", "more", "(III)V"⟩, prog_3_method_6_code, 4, none),
  (⟨"StockEvents$Snapshots", "add", "(III)V"⟩, prog_10_method_3_code, 6, none),
  (⟨"StockEvents$Snapshots", "dropOldest", "(I)V"⟩, prog_10_method_4_code, 3, none),
  (⟨"StockEvents", "batch", "()I"⟩, prog_1_method_4_code, 2, (some FieldType.int)),
  (⟨"StockEvents$Tape", "readLines", "(LStockEvents$Batch;)V"⟩, prog_12_method_20_code, 4, none),
  (⟨"StockEvents$Batch", "clear", "()V"⟩, prog_2_method_2_code, 1, none),
  (⟨"StockEvents$Batch", "add", "(ILStockEvents$Command;)V"⟩, prog_2_method_3_code, 3, none),
  (⟨"StockEvents$Store", "carryAll", "(LStockEvents$Batch;)I"⟩, prog_11_method_7_code, 4, (some FieldType.int)),
  (⟨"StockEvents$Batch", "think", "(LStockEvents$Bins;I)V"⟩, prog_2_method_6_code, 5, none),
  (⟨"StockEvents$Bins", "copyFrom", "(LStockEvents$Bins;)V"⟩, prog_3_method_3_code, 2, none),
  (⟨"StockEvents$Batch", "commandOf", "(I)LStockEvents$Command;"⟩, prog_2_method_5_code, 2, (some (FieldType.object "StockEvents$Command"))),
  (⟨"StockEvents$Batch", "streamOf", "(I)I"⟩, prog_2_method_4_code, 2, (some FieldType.int)),
  (⟨"StockEvents$Batch", "carry", "(ILStockEvents$Command;)V"⟩, prog_2_method_7_code, 3, none),
  (⟨"StockEvents", "upcast", "()I"⟩, prog_1_method_5_code, 5, (some FieldType.int)),
  (⟨"StockEvents$Store", "addUpcaster", "(ILStockEvents$Formula;LStockEvents$Formula;)I"⟩, prog_11_method_8_code, 5, (some FieldType.int)),
  (⟨"StockEvents$Formats", "add", "(ILStockEvents$Formula;LStockEvents$Formula;)I"⟩, prog_5_method_4_code, 5, (some FieldType.int)),
  (⟨"StockEvents$Store", "foldPast", "(I)V"⟩, prog_11_method_9_code, 3, none),
  (⟨"StockEvents$Bins", "clear", "()V"⟩, prog_3_method_2_code, 1, none),
  (⟨"StockEvents$Store", "changePast", "(I)V"⟩, prog_11_method_10_code, 2, none),
  (⟨"StockEvents$Formats", "read", "(LStockEvents$Log;I)V"⟩, prog_5_method_6_code, 6, none)]
def mtd_2 : List (MethodName × ByteArray × Nat × Option FieldType) := [(⟨"StockEvents$Log", "get", "(II)I"⟩, prog_7_method_5_code, 4, (some FieldType.int)),
  (⟨"StockEvents$Log", "has", "(I)Z"⟩, prog_7_method_3_code, 2, (some FieldType.boolean)),
  (⟨"StockEvents$Formats", "change", "(LStockEvents$Formula;LStockEvents$Formula;)V"⟩, prog_5_method_7_code, 5, none),
  (⟨"StockEvents$Formula", "give", "([I)I"⟩, prog_6_method_2_code, 5, (some FieldType.int)),
  (⟨"StockEvents$Formula", "letterOf", "([II)I"⟩, prog_6_method_3_code, 2, (some FieldType.int)),
  (⟨"StockEvents$Formula", "join", "(III)I"⟩, prog_6_method_4_code, 3, (some FieldType.int)),
  (⟨"StockEvents$Formats", "letter", "(I)I"⟩, prog_5_method_5_code, 2, (some FieldType.int)),
  (⟨"StockEvents", "state", "(II)I"⟩, prog_1_method_6_code, 3, (some FieldType.int)),
  (⟨"StockEvents", "at", "(III)I"⟩, prog_1_method_7_code, 4, (some FieldType.int)),
  (⟨"StockEvents", "isVersion", "(II)Z"⟩, prog_1_method_36_code, 3, (some FieldType.boolean)),
  (⟨"StockEvents$Log", "positionOf", "(II)I"⟩, prog_7_method_9_code, 4, (some FieldType.int)),
  (⟨"StockEvents", "steps", "(II)I"⟩, prog_1_method_8_code, 3, (some FieldType.int)),
  (⟨"StockEvents$Snapshots", "latestGood", "(III)I"⟩, prog_10_method_8_code, 7, (some FieldType.int)),
  (⟨"StockEvents$Snapshots", "sizeOf", "(I)I"⟩, prog_10_method_5_code, 2, (some FieldType.int)),
  (⟨"StockEvents$Snapshots", "isGood", "(II)Z"⟩, prog_10_method_6_code, 3, (some FieldType.boolean)),
  (⟨"StockEvents", "snap", "(I)I"⟩, prog_1_method_9_code, 3, (some FieldType.int)),
  (⟨"StockEvents", "within", "(III)Z"⟩, prog_1_method_39_code, 3, (some FieldType.boolean)),
  (⟨"StockEvents", "within", "(III)Z"⟩, prog_1_method_39_code, 3, (some FieldType.boolean)),
  (⟨"StockEvents", "every", "(I)I"⟩, prog_1_method_11_code, 3, (some FieldType.int)),
  (⟨"StockEvents", "event", "(II)I"⟩, prog_1_method_12_code, 3, (some FieldType.int)),
  (⟨"StockEvents", "within", "(III)Z"⟩, prog_1_method_39_code, 3, (some FieldType.boolean)),
  (⟨"StockEvents", "within", "(III)Z"⟩, prog_1_method_39_code, 3, (some FieldType.boolean)),
  (⟨"StockEvents", "within", "(III)Z"⟩, prog_1_method_39_code, 3, (some FieldType.boolean)),
  (⟨"StockEvents", "within", "(III)Z"⟩, prog_1_method_39_code, 3, (some FieldType.boolean)),
  (⟨"StockEvents", "within", "(III)Z"⟩, prog_1_method_39_code, 3, (some FieldType.boolean)),
  (⟨"StockEvents", "within", "(III)Z"⟩, prog_1_method_39_code, 3, (some FieldType.boolean)),
  (⟨"StockEvents", "find", "(II)I"⟩, prog_1_method_14_code, 3, (some FieldType.int)),
  (⟨"StockEvents", "within", "(III)Z"⟩, prog_1_method_39_code, 3, (some FieldType.boolean)),
  (⟨"StockEvents", "within", "(III)Z"⟩, prog_1_method_39_code, 3, (some FieldType.boolean)),
  (⟨"StockEvents", "project", "(I)I"⟩, prog_1_method_16_code, 4, (some FieldType.int)),
  (⟨"StockEvents", "isSlot", "(I)Z"⟩, prog_1_method_38_code, 1, (some FieldType.boolean)),
  (⟨"StockEvents$Tape", "projection", "()LStockEvents$Projection;"⟩, prog_12_method_22_code, 5, (some (FieldType.object "StockEvents$Projection"))),
  (⟨"StockEvents$Tape", "kinds", "()I"⟩, prog_12_method_21_code, 4, (some FieldType.int)),
  (⟨"StockEvents$Tape", "always", "()LStockEvents$Formula;"⟩, prog_12_method_24_code, 1, (some (FieldType.object "StockEvents$Formula"))),
  (⟨"StockEvents$Projection", "<init>", "(IIILStockEvents$Formula;)V"⟩, prog_9_method_1_code, 5, none),
  (⟨"StockEvents", "rebuild", "(I)I"⟩, prog_1_method_17_code, 5, (some FieldType.int)),
  (⟨"StockEvents$Projection", "afresh", "()LStockEvents$Projection;"⟩, prog_9_method_2_code, 1, (some (FieldType.object "StockEvents$Projection"))),
  (⟨"StockEvents", "deliver", "(IIII)I"⟩, prog_1_method_18_code, 6, (some FieldType.int)),
  (⟨"StockEvents$Store", "projectionOf", "(II)LStockEvents$Projection;"⟩, prog_11_method_11_code, 3, (some (FieldType.object "StockEvents$Projection"))),
  (⟨"StockEvents$Store", "handOver", "(LStockEvents$Projection;II)I"⟩, prog_11_method_12_code, 7, (some FieldType.int))]
def mtd_3 : List (MethodName × ByteArray × Nat × Option FieldType) := [(⟨"StockEvents$Store", "handle", "(LStockEvents$Projection;I)V"⟩, prog_11_method_13_code, 3, none),
  (⟨"StockEvents$Projection", "handle", "(I[I)V"⟩, prog_9_method_5_code, 4, none),
  (⟨"StockEvents$Projection", "has", "(I)Z"⟩, prog_9_method_4_code, 2, (some FieldType.boolean)),
  (⟨"StockEvents$Projection", "folded", "(II)I"⟩, prog_9_method_6_code, 3, (some FieldType.int)),
  (⟨"StockEvents", "swap", "(I)I"⟩, prog_1_method_19_code, 4, (some FieldType.int)),
  (⟨"StockEvents", "look", "(III)I"⟩, prog_1_method_20_code, 5, (some FieldType.int)),
  (⟨"StockEvents$Projection", "size", "()I"⟩, prog_9_method_7_code, 1, (some FieldType.int)),
  (⟨"java/lang/Integer", "bitCount", "(I)I"⟩, prog_18_method_49_code, 1, (some FieldType.int)),
  (⟨"StockEvents$Store", "isTrue", "(LStockEvents$Projection;)Z"⟩, prog_11_method_14_code, 4, (some FieldType.boolean)),
  (⟨"StockEvents$Projection", "sameRows", "(LStockEvents$Projection;)Z"⟩, prog_9_method_9_code, 3, (some FieldType.boolean)),
  (⟨"StockEvents$Projection", "sum", "()I"⟩, prog_9_method_8_code, 3, (some FieldType.int)),
  (⟨"StockEvents", "row", "(III)I"⟩, prog_1_method_21_code, 5, (some FieldType.int)),
  (⟨"StockEvents", "policy", "(I)I"⟩, prog_1_method_22_code, 4, (some FieldType.int)),
  (⟨"StockEvents$Tape", "policyText", "()LStockEvents$Policy;"⟩, prog_12_method_23_code, 3, (some (FieldType.object "StockEvents$Policy"))),
  (⟨"StockEvents$Policy", "<init>", "(ILStockEvents$Formula;LStockEvents$Command;)V"⟩, prog_8_method_1_code, 4, none),
  (⟨"StockEvents", "run", "(II)I"⟩, prog_1_method_23_code, 4, (some FieldType.int)),
  (⟨"StockEvents$Store", "runPolicy", "(LStockEvents$Policy;I)I"⟩, prog_11_method_17_code, 4, (some FieldType.int)),
  (⟨"StockEvents$Store", "hasHandled", "(LStockEvents$Policy;I)Z"⟩, prog_11_method_18_code, 5, (some FieldType.boolean)),
  (⟨"StockEvents$Policy", "isFor", "(I[I)Z"⟩, prog_8_method_3_code, 3, (some FieldType.boolean)),
  (⟨"StockEvents$Command", "amountBy", "([I)I"⟩, prog_4_method_3_code, 2, (some FieldType.int)),
  (⟨"StockEvents", "within", "(III)Z"⟩, prog_1_method_39_code, 3, (some FieldType.boolean)),
  (⟨"StockEvents", "within", "(III)Z"⟩, prog_1_method_39_code, 3, (some FieldType.boolean)),
  (⟨"StockEvents", "within", "(III)Z"⟩, prog_1_method_39_code, 3, (some FieldType.boolean)),
  (⟨"StockEvents", "within", "(III)Z"⟩, prog_1_method_39_code, 3, (some FieldType.boolean)),
  (⟨"StockEvents", "within", "(III)Z"⟩, prog_1_method_39_code, 3, (some FieldType.boolean)),
  (⟨"StockEvents", "within", "(III)Z"⟩, prog_1_method_39_code, 3, (some FieldType.boolean)),
  (⟨"StockEvents", "within", "(III)Z"⟩, prog_1_method_39_code, 3, (some FieldType.boolean)),
  (⟨"StockEvents", "within", "(III)Z"⟩, prog_1_method_39_code, 3, (some FieldType.boolean)),
  (⟨"StockEvents", "within", "(III)Z"⟩, prog_1_method_39_code, 3, (some FieldType.boolean)),
  (⟨"StockEvents", "within", "(III)Z"⟩, prog_1_method_39_code, 3, (some FieldType.boolean)),
  (⟨"StockEvents", "within", "(III)Z"⟩, prog_1_method_39_code, 3, (some FieldType.boolean)),
  (⟨"StockEvents", "within", "(III)Z"⟩, prog_1_method_39_code, 3, (some FieldType.boolean)),
  (⟨"StockEvents", "within", "(III)Z"⟩, prog_1_method_39_code, 3, (some FieldType.boolean)),
  (⟨"StockEvents", "within", "(III)Z"⟩, prog_1_method_39_code, 3, (some FieldType.boolean)),
  (⟨"StockEvents", "within", "(III)Z"⟩, prog_1_method_39_code, 3, (some FieldType.boolean)),
  (⟨"StockEvents", "within", "(III)Z"⟩, prog_1_method_39_code, 3, (some FieldType.boolean)),
  (⟨"StockEvents", "within", "(III)Z"⟩, prog_1_method_39_code, 3, (some FieldType.boolean)),
  (⟨"StockEvents", "within", "(III)Z"⟩, prog_1_method_39_code, 3, (some FieldType.boolean)),
  (⟨"StockEvents", "within", "(III)Z"⟩, prog_1_method_39_code, 3, (some FieldType.boolean)),
  (⟨"StockEvents", "within", "(III)Z"⟩, prog_1_method_39_code, 3, (some FieldType.boolean))]
def mtd_4 : List (MethodName × ByteArray × Nat × Option FieldType) := [(⟨"StockEvents", "within", "(III)Z"⟩, prog_1_method_39_code, 3, (some FieldType.boolean)),
  (⟨"StockEvents", "led", "(I)I"⟩, prog_1_method_34_code, 2, (some FieldType.int)),
  (⟨"StockEvents", "count", "(I)I"⟩, prog_1_method_35_code, 2, (some FieldType.int)),
  (⟨"StockEvents$Log", "streamsUsed", "()I"⟩, prog_7_method_10_code, 3, (some FieldType.int)),
  (⟨"StockEvents$Store", "numbersUsed", "()I"⟩, prog_11_method_16_code, 3, (some FieldType.int)),
  (⟨"StockEvents$Snapshots", "total", "()I"⟩, prog_10_method_9_code, 3, (some FieldType.int)),
  (⟨"StockEvents$Store", "liveOnes", "()I"⟩, prog_11_method_15_code, 3, (some FieldType.int)),
  (⟨"java/lang/StringBuilder", "<init>", "()V"⟩, prog_22_method_1_code, 1, none),
  (⟨"java/lang/StringBuilder", "append", "(Ljava/lang/String;)Ljava/lang/StringBuilder;"⟩, prog_22_method_7_code, 2, (some (FieldType.object "java/lang/StringBuilder"))),
  (⟨"java/lang/StringBuilder", "append", "(I)Ljava/lang/StringBuilder;"⟩, prog_22_method_15_code, 2, (some (FieldType.object "java/lang/StringBuilder"))),
  (⟨"java/lang/StringBuilder", "toString", "()Ljava/lang/String;"⟩, prog_22_method_42_code, 1, (some (FieldType.object "java/lang/String"))),
  (⟨"java/lang/StringBuilder", "length", "()I"⟩, prog_22_method_93_code, 1, (some FieldType.int)),
  (⟨"java/lang/AbstractStringBuilder", "<init>", "(I)V"⟩, prog_15_method_2_code, 2, none),
  (⟨"java/lang/AbstractStringBuilder", "append", "(Ljava/lang/String;)Ljava/lang/AbstractStringBuilder;"⟩, prog_15_method_22_code, 3, (some (FieldType.object "java/lang/AbstractStringBuilder"))),
  (⟨"java/lang/AbstractStringBuilder", "append", "(I)Ljava/lang/AbstractStringBuilder;"⟩, prog_15_method_32_code, 4, (some (FieldType.object "java/lang/AbstractStringBuilder"))),
  (⟨"java/lang/AbstractStringBuilder", "ensureCapacityInternal", "(I)V"⟩, prog_15_method_9_code, 3, none),
  (⟨"java/lang/AbstractStringBuilder", "newCapacity", "(I)I"⟩, prog_15_method_10_code, 6, (some FieldType.int)),
  (⟨"java/lang/AbstractStringBuilder", "isLatin1", "()Z"⟩, prog_15_method_68_code, 1, (some FieldType.boolean)),
  (⟨"java/lang/AbstractStringBuilder", "putStringAt", "(ILjava/lang/String;)V"⟩, prog_15_method_73_code, 3, none),
  (⟨"java/lang/AbstractStringBuilder", "inflateIfNeededFor", "(Ljava/lang/String;)V"⟩, prog_15_method_71_code, 2, none),
  (⟨"java/lang/AbstractStringBuilder", "getValue", "()[B"⟩, prog_15_method_64_code, 1, (some (FieldType.array FieldType.byte))),
  (⟨"java/lang/AbstractStringBuilder", "length", "()I"⟩, prog_15_method_6_code, 1, (some FieldType.int)),
  (⟨"java/lang/String", "<init>", "(Ljava/lang/StringBuilder;)V"⟩, prog_21_method_53_code, 2, none),
  (⟨"java/lang/String", "<init>", "(Ljava/lang/AbstractStringBuilder;Ljava/lang/Void;)V"⟩, prog_21_method_150_code, 5, none),
  (⟨"java/lang/String", "getBytes", "([BIB)V"⟩, prog_21_method_147_code, 4, none),
  (⟨"java/lang/Integer", "stringSize", "(I)I"⟩, prog_18_method_13_code, 4, (some FieldType.int)),
  (⟨"java/lang/Integer", "getChars", "(II[B)I"⟩, prog_18_method_12_code, 7, (some FieldType.int)),
  (⟨"java/util/Arrays", "copyOf", "([BI)[B"⟩, prog_26_method_121_code, 3, (some (FieldType.array FieldType.byte))),
  (⟨"java/util/Arrays", "copyOfRange", "([BII)[B"⟩, prog_26_method_132_code, 3, (some (FieldType.array FieldType.byte))),
  (⟨"java/util/Arrays", "copyOfRangeByte", "([BII)[B"⟩, prog_26_method_133_code, 5, (some (FieldType.array FieldType.byte))),
  (⟨"java/util/Arrays", "checkLength", "(II)V"⟩, prog_26_method_131_code, 2, none),
  (⟨"jdk/internal/util/ArraysSupport", "newLength", "(III)I"⟩, prog_27_method_27_code, 4, (some FieldType.int)),
  (⟨"StockEventsLaw", "cell", "([II)I"⟩, method_2_code, 2, (some FieldType.int)),
  (⟨"StockEventsLaw", "tell", "(LStockEvents;Ljava/lang/String;)Z"⟩, method_3_code, 3, (some FieldType.boolean)),
  (⟨"StockEventsLaw", "asks", "(LStockEvents;Ljava/lang/String;IIII)Z"⟩, method_4_code, 6, (some FieldType.boolean)),
  (⟨"StockEventsLaw", "bins", "()[[I"⟩, method_5_code, 0, (some (FieldType.array (FieldType.array FieldType.int)))),
  (⟨"StockEventsLaw", "streamOf", "(I)I"⟩, method_6_code, 1, (some FieldType.int)),
  (⟨"StockEventsLaw", "kindOf", "(I)I"⟩, method_7_code, 1, (some FieldType.int)),
  (⟨"StockEventsLaw", "amountOf", "(I)I"⟩, method_8_code, 1, (some FieldType.int)),
  (⟨"StockEventsLaw", "targetOf", "(I)I"⟩, method_9_code, 1, (some FieldType.int))]
def mtd_5 : List (MethodName × ByteArray × Nat × Option FieldType) := [(⟨"StockEventsLaw", "text", "(I)Ljava/lang/String;"⟩, method_10_code, 3, (some (FieldType.object "java/lang/String"))),
  (⟨"StockEventsLaw", "isSo", "(LStockEvents;[[I)Z"⟩, method_13_code, 4, (some FieldType.boolean)),
  (⟨"StockEventsLaw", "opened", "(LStockEvents;[[I)Z"⟩, method_14_code, 2, (some FieldType.boolean)),
  (⟨"StockEventsLaw", "isFolded", "(LStockEvents;)Z"⟩, method_15_code, 7, (some FieldType.boolean)),
  (⟨"StockEvents", "within", "(III)Z"⟩, prog_1_method_39_code, 3, (some FieldType.boolean)),
  (⟨"StockEvents", "within", "(III)Z"⟩, prog_1_method_39_code, 3, (some FieldType.boolean)),
  (⟨"StockEvents", "within", "(III)Z"⟩, prog_1_method_39_code, 3, (some FieldType.boolean)),
  (⟨"StockEvents", "within", "(III)Z"⟩, prog_1_method_39_code, 3, (some FieldType.boolean)),
  (⟨"StockEvents", "within", "(III)Z"⟩, prog_1_method_39_code, 3, (some FieldType.boolean)),
  (⟨"StockEvents", "within", "(III)Z"⟩, prog_1_method_39_code, 3, (some FieldType.boolean)),
  (⟨"StockEvents", "within", "(III)Z"⟩, prog_1_method_39_code, 3, (some FieldType.boolean)),
  (⟨"StockEvents", "within", "(III)Z"⟩, prog_1_method_39_code, 3, (some FieldType.boolean)),
  (⟨"StockEvents", "within", "(III)Z"⟩, prog_1_method_39_code, 3, (some FieldType.boolean)),
  (⟨"StockEvents", "within", "(III)Z"⟩, prog_1_method_39_code, 3, (some FieldType.boolean)),
  (⟨"StockEvents", "within", "(III)Z"⟩, prog_1_method_39_code, 3, (some FieldType.boolean)),
  (⟨"StockEvents", "within", "(III)Z"⟩, prog_1_method_39_code, 3, (some FieldType.boolean)),
  (⟨"StockEvents", "within", "(III)Z"⟩, prog_1_method_39_code, 3, (some FieldType.boolean)),
  (⟨"StockEvents", "within", "(III)Z"⟩, prog_1_method_39_code, 3, (some FieldType.boolean)),
  (⟨"StockEvents", "within", "(III)Z"⟩, prog_1_method_39_code, 3, (some FieldType.boolean)),
  (⟨"StockEvents", "within", "(III)Z"⟩, prog_1_method_39_code, 3, (some FieldType.boolean)),
  (⟨"StockEvents", "within", "(III)Z"⟩, prog_1_method_39_code, 3, (some FieldType.boolean)),
  (⟨"StockEvents", "within", "(III)Z"⟩, prog_1_method_39_code, 3, (some FieldType.boolean)),
  (⟨"StockEvents", "within", "(III)Z"⟩, prog_1_method_39_code, 3, (some FieldType.boolean)),
  (⟨"StockEvents", "within", "(III)Z"⟩, prog_1_method_39_code, 3, (some FieldType.boolean)),
  (⟨"StockEvents", "within", "(III)Z"⟩, prog_1_method_39_code, 3, (some FieldType.boolean)),
  (⟨"StockEvents", "within", "(III)Z"⟩, prog_1_method_39_code, 3, (some FieldType.boolean)),
  (⟨"StockEvents", "within", "(III)Z"⟩, prog_1_method_39_code, 3, (some FieldType.boolean)),
  (⟨"StockEvents", "within", "(III)Z"⟩, prog_1_method_39_code, 3, (some FieldType.boolean)),
  (⟨"StockEvents", "within", "(III)Z"⟩, prog_1_method_39_code, 3, (some FieldType.boolean)),
  (⟨"StockEvents", "within", "(III)Z"⟩, prog_1_method_39_code, 3, (some FieldType.boolean)),
  (⟨"StockEvents", "within", "(III)Z"⟩, prog_1_method_39_code, 3, (some FieldType.boolean)),
  (⟨"StockEvents", "within", "(III)Z"⟩, prog_1_method_39_code, 3, (some FieldType.boolean)),
  (⟨"StockEvents", "within", "(III)Z"⟩, prog_1_method_39_code, 3, (some FieldType.boolean)),
  (⟨"StockEvents", "within", "(III)Z"⟩, prog_1_method_39_code, 3, (some FieldType.boolean)),
  (⟨"StockEvents", "within", "(III)Z"⟩, prog_1_method_39_code, 3, (some FieldType.boolean)),
  (⟨"StockEvents", "within", "(III)Z"⟩, prog_1_method_39_code, 3, (some FieldType.boolean)),
  (⟨"StockEvents", "within", "(III)Z"⟩, prog_1_method_39_code, 3, (some FieldType.boolean)),
  (⟨"StockEvents", "within", "(III)Z"⟩, prog_1_method_39_code, 3, (some FieldType.boolean)),
  (⟨"StockEvents", "within", "(III)Z"⟩, prog_1_method_39_code, 3, (some FieldType.boolean)),
  (⟨"StockEvents", "within", "(III)Z"⟩, prog_1_method_39_code, 3, (some FieldType.boolean))]
def mtd_6 : List (MethodName × ByteArray × Nat × Option FieldType) := [(⟨"StockEvents", "within", "(III)Z"⟩, prog_1_method_39_code, 3, (some FieldType.boolean)),
  (⟨"StockEvents", "within", "(III)Z"⟩, prog_1_method_39_code, 3, (some FieldType.boolean)),
  (⟨"StockEvents", "within", "(III)Z"⟩, prog_1_method_39_code, 3, (some FieldType.boolean)),
  (⟨"StockEvents", "within", "(III)Z"⟩, prog_1_method_39_code, 3, (some FieldType.boolean)),
  (⟨"StockEvents", "within", "(III)Z"⟩, prog_1_method_39_code, 3, (some FieldType.boolean)),
  (⟨"StockEvents", "within", "(III)Z"⟩, prog_1_method_39_code, 3, (some FieldType.boolean)),
  (⟨"StockEvents", "within", "(III)Z"⟩, prog_1_method_39_code, 3, (some FieldType.boolean)),
  (⟨"StockEvents", "within", "(III)Z"⟩, prog_1_method_39_code, 3, (some FieldType.boolean)),
  (⟨"StockEvents", "within", "(III)Z"⟩, prog_1_method_39_code, 3, (some FieldType.boolean)),
  (⟨"StockEvents", "within", "(III)Z"⟩, prog_1_method_39_code, 3, (some FieldType.boolean)),
  (⟨"StockEvents", "within", "(III)Z"⟩, prog_1_method_39_code, 3, (some FieldType.boolean)),
  (⟨"StockEvents", "within", "(III)Z"⟩, prog_1_method_39_code, 3, (some FieldType.boolean)),
  (⟨"StockEvents", "within", "(III)Z"⟩, prog_1_method_39_code, 3, (some FieldType.boolean)),
  (⟨"StockEvents", "within", "(III)Z"⟩, prog_1_method_39_code, 3, (some FieldType.boolean)),
  (⟨"StockEvents", "within", "(III)Z"⟩, prog_1_method_39_code, 3, (some FieldType.boolean)),
  (⟨"StockEvents", "within", "(III)Z"⟩, prog_1_method_39_code, 3, (some FieldType.boolean)),
  (⟨"StockEvents", "within", "(III)Z"⟩, prog_1_method_39_code, 3, (some FieldType.boolean)),
  (⟨"StockEvents", "within", "(III)Z"⟩, prog_1_method_39_code, 3, (some FieldType.boolean)),
  (⟨"StockEvents", "within", "(III)Z"⟩, prog_1_method_39_code, 3, (some FieldType.boolean)),
  (⟨"StockEvents", "within", "(III)Z"⟩, prog_1_method_39_code, 3, (some FieldType.boolean)),
  (⟨"StockEvents", "within", "(III)Z"⟩, prog_1_method_39_code, 3, (some FieldType.boolean)),
  (⟨"StockEvents", "within", "(III)Z"⟩, prog_1_method_39_code, 3, (some FieldType.boolean)),
  (⟨"StockEvents", "within", "(III)Z"⟩, prog_1_method_39_code, 3, (some FieldType.boolean)),
  (⟨"StockEvents", "within", "(III)Z"⟩, prog_1_method_39_code, 3, (some FieldType.boolean)),
  (⟨"StockEvents", "within", "(III)Z"⟩, prog_1_method_39_code, 3, (some FieldType.boolean)),
  (⟨"StockEvents", "within", "(III)Z"⟩, prog_1_method_39_code, 3, (some FieldType.boolean)),
  (⟨"StockEvents", "within", "(III)Z"⟩, prog_1_method_39_code, 3, (some FieldType.boolean)),
  (⟨"StockEvents", "within", "(III)Z"⟩, prog_1_method_39_code, 3, (some FieldType.boolean))]
def mtdL : List (MethodName × ByteArray × Nat × Option FieldType) := mtd_0 ++ (mtd_1 ++ (mtd_2 ++ (mtd_3 ++ (mtd_4 ++ (mtd_5 ++ (mtd_6))))))
def mxL : List Nat := [1, 1, 1, 1, 1, 1, 1, 1, 1, 1, 4, 2, 3, 2, 6, 1, 1, 6, 7, 2, 2, 1, 2, 7, 2, 5, 2, 1, 3, 6, 3, 1, 5, 2, 2, 2, 3, 4, 1, 2, 2, 6, 1, 3, 2, 1, 7, 2, 2, 5, 6, 4, 1, 1, 6, 2, 6, 4, 4, 5, 4, 6, 3, 2, 4, 1, 3, 4, 5, 2, 2, 2, 3, 5, 5, 5, 3, 1, 2, 6, 4, 2, 5, 5, 2, 3, 2, 3, 4, 3, 4, 3, 7, 2, 3, 3, 3, 3, 3, 3, 3, 3, 3, 3, 3, 3, 3, 3, 3, 4, 1, 5, 4, 1, 5, 5, 1, 6, 3, 7, 3, 4, 2, 3, 4, 5, 1, 1, 4, 3, 3, 5, 4, 3, 4, 4, 4, 5, 3, 2, 3, 3, 3, 3, 3, 3, 3, 3, 3, 3, 3, 3, 3, 3, 3, 3, 3, 3, 3, 3, 3, 2, 2, 3, 3, 3, 3, 1, 2, 2, 1, 1, 2, 3, 4, 3, 6, 1, 3, 2, 1, 1, 2, 5, 4, 4, 7, 3, 3, 5, 2, 4, 2, 3, 6, 0, 1, 1, 1, 1, 3, 4, 2, 7, 3, 3, 3, 3, 3, 3, 3, 3, 3, 3, 3, 3, 3, 3, 3, 3, 3, 3, 3, 3, 3, 3, 3, 3, 3, 3, 3, 3, 3, 3, 3, 3, 3, 3, 3, 3, 3, 3, 3, 3, 3, 3, 3, 3, 3, 3, 3, 3, 3, 3, 3, 3, 3, 3, 3, 3, 3, 3, 3, 3, 3, 3, 3, 3, 10]
def rkL : List Nat := [0, 0, 0, 0, 0, 0, 0, 1, 4, 0, 0, 1, 2, 1, 1, 2, 0, 6, 1, 1, 3, 2, 3, 2, 0, 0, 0, 1, 6, 0, 0, 2, 1, 0, 0, 1, 1, 1, 2, 1, 1, 1, 6, 6, 0, 1, 1, 0, 1, 1, 1, 1, 1, 1, 0, 1, 0, 0, 0, 0, 0, 0, 0, 1, 0, 0, 0, 1, 0, 0, 6, 1, 0, 1, 1, 1, 0, 0, 0, 0, 1, 2, 0, 1, 1, 1, 1, 1, 1, 2, 1, 1, 1, 1, 2, 1, 2, 2, 1, 1, 2, 2, 2, 2, 2, 2, 1, 2, 2, 1, 2, 6, 1, 6, 0, 1, 6, 1, 6, 1, 0, 0, 2, 1, 1, 1, 1, 1, 2, 2, 1, 1, 1, 6, 0, 1, 1, 2, 2, 1, 2, 2, 2, 2, 2, 2, 2, 2, 2, 2, 2, 2, 2, 2, 2, 2, 2, 2, 2, 2, 2, 1, 1, 1, 1, 1, 1, 0, 6, 6, 6, 1, 0, 6, 6, 0, 1, 2, 0, 0, 6, 1, 0, 0, 0, 1, 1, 6, 6, 6, 0, 1, 1, 2, 2, 6, 1, 1, 1, 1, 6, 2, 2, 2, 2, 2, 2, 2, 2, 2, 2, 2, 2, 2, 2, 2, 2, 2, 2, 2, 2, 2, 2, 2, 2, 2, 2, 2, 2, 2, 2, 2, 2, 2, 2, 2, 2, 2, 2, 2, 2, 2, 2, 2, 2, 2, 2, 2, 2, 2, 2, 2, 2, 2, 2, 2, 2, 2, 2, 2, 2, 2, 2, 2, 2, 2, 2, 2, 2]
def mcL : List Nat := [11, 10, 0, 1, 9, 5, 3, 13, 13, 8, 17, 11, 11, 10, 11, 11, 10, 10, 10, 10, 13, 13, 14, 10, 10, 2, 10, 10, 10, 10, 10, 10, 10, 10, 10, 13, 13, 14, 14, 16, 16, 14, 10, 17, 4, 10, 9, 9, 5, 9, 1, 1, 2, 5, 9, 3, 5, 5, 1, 1, 1, 8, 8, 11, 10, 0, 0, 9, 0, 1, 0, 0, 0, 11, 9, 3, 9, 1, 9, 3, 5, 5, 3, 4, 4, 4, 3, 11, 11, 11, 5, 11, 8, 8, 8, 11, 11, 11, 11, 11, 11, 11, 11, 11, 11, 11, 11, 11, 11, 11, 11, 10, 10, 10, 7, 11, 7, 11, 9, 9, 9, 7, 7, 7, 11, 11, 7, 15, 9, 7, 7, 11, 11, 10, 6, 11, 9, 9, 6, 2, 11, 11, 11, 11, 11, 11, 11, 11, 11, 11, 11, 11, 11, 11, 11, 11, 11, 11, 11, 11, 11, 11, 11, 5, 9, 8, 9, 12, 12, 12, 12, 12, 19, 19, 19, 19, 19, 19, 19, 19, 19, 19, 13, 13, 13, 15, 15, 17, 17, 17, 17, 20, 18, 18, 18, 18, 18, 18, 18, 18, 18, 18, 18, 18, 11, 11, 11, 11, 11, 11, 11, 11, 11, 11, 11, 11, 11, 11, 11, 11, 11, 11, 11, 11, 11, 11, 11, 11, 11, 11, 11, 11, 11, 11, 11, 11, 11, 11, 11, 11, 11, 11, 11, 11, 11, 11, 11, 11, 11, 11, 11, 11, 11, 11, 11, 11, 11, 11, 11, 11, 11, 11, 11, 11, 11, 11, 11, 11, 18]
/-- the kind of what a method is called on -/
def rcL : List Nat := [11, 10, 0, 1, 9, 5, 3, 13, 13, 8, 17, 11, 11, 10, 11, 11, 10, 10, 10, 10, 13, 13, 14, 10, 10, 2, 10, 10, 10, 10, 10, 10, 10, 10, 10, 13, 13, 14, 14, 16, 16, 14, 10, 17, 4, 10, 9, 9, 5, 9, 1, 1, 2, 5, 9, 3, 5, 5, 1, 1, 1, 8, 8, 11, 10, 0, 0, 9, 0, 1, 0, 0, 0, 11, 9, 3, 9, 1, 9, 3, 5, 5, 3, 4, 4, 4, 3, 11, 11, 11, 5, 11, 8, 8, 8, 11, 11, 11, 11, 11, 11, 11, 11, 11, 11, 11, 11, 11, 11, 11, 11, 10, 10, 10, 7, 11, 7, 11, 9, 9, 9, 7, 7, 7, 11, 11, 7, 15, 9, 7, 7, 11, 11, 10, 6, 11, 9, 9, 6, 2, 11, 11, 11, 11, 11, 11, 11, 11, 11, 11, 11, 11, 11, 11, 11, 11, 11, 11, 11, 11, 11, 11, 11, 5, 9, 8, 9, 12, 12, 12, 12, 12, 12, 12, 12, 12, 12, 12, 12, 12, 12, 12, 13, 13, 13, 15, 15, 17, 17, 17, 17, 20, 18, 18, 18, 18, 18, 18, 18, 18, 18, 18, 18, 18, 11, 11, 11, 11, 11, 11, 11, 11, 11, 11, 11, 11, 11, 11, 11, 11, 11, 11, 11, 11, 11, 11, 11, 11, 11, 11, 11, 11, 11, 11, 11, 11, 11, 11, 11, 11, 11, 11, 11, 11, 11, 11, 11, 11, 11, 11, 11, 11, 11, 11, 11, 11, 11, 11, 11, 11, 11, 11, 11, 11, 11, 11, 11, 11, 18]
def naL : List Nat := [1, 1, 1, 1, 1, 1, 1, 1, 1, 1, 2, 2, 3, 2, 4, 1, 1, 2, 2, 1, 2, 1, 2, 5, 2, 5, 2, 1, 3, 3, 2, 1, 2, 2, 1, 2, 3, 4, 1, 2, 2, 4, 1, 2, 2, 1, 5, 2, 2, 4, 4, 3, 1, 1, 5, 2, 6, 3, 4, 4, 4, 4, 2, 1, 2, 1, 3, 2, 3, 2, 2, 2, 3, 1, 4, 4, 2, 1, 2, 3, 3, 2, 3, 2, 2, 3, 2, 3, 4, 3, 3, 3, 4, 2, 3, 2, 3, 3, 2, 3, 3, 3, 3, 3, 3, 3, 3, 3, 3, 2, 1, 1, 1, 0, 5, 2, 1, 5, 3, 4, 3, 3, 2, 3, 2, 4, 1, 1, 2, 2, 1, 4, 2, 1, 4, 3, 3, 3, 3, 2, 3, 3, 3, 3, 3, 3, 3, 3, 3, 3, 3, 3, 3, 3, 3, 3, 3, 3, 3, 3, 3, 2, 2, 1, 1, 1, 1, 1, 2, 2, 1, 1, 2, 2, 2, 2, 2, 1, 3, 2, 1, 1, 2, 3, 4, 1, 3, 2, 3, 3, 2, 3, 2, 2, 6, 0, 1, 1, 1, 1, 1, 2, 2, 1, 3, 3, 3, 3, 3, 3, 3, 3, 3, 3, 3, 3, 3, 3, 3, 3, 3, 3, 3, 3, 3, 3, 3, 3, 3, 3, 3, 3, 3, 3, 3, 3, 3, 3, 3, 3, 3, 3, 3, 3, 3, 3, 3, 3, 3, 3, 3, 3, 3, 3, 3, 3, 3, 3, 3, 3, 3, 3, 3, 3, 3, 3, 3, 3, 1]
def stL : List Bool := [false, false, false, false, false, false, false, false, false, false, true, false, true, false, false, true, false, false, false, false, false, false, true, false, false, false, false, false, false, false, false, true, false, false, false, false, false, true, true, true, true, true, true, true, false, false, false, false, false, false, false, false, false, false, false, false, false, false, false, false, false, false, false, false, false, false, false, false, false, false, false, false, false, false, false, false, false, false, false, false, false, false, false, false, true, true, false, false, false, false, false, false, false, false, false, false, true, true, false, false, true, true, true, true, true, true, false, true, true, false, true, false, false, true, false, false, false, false, false, false, false, false, false, false, false, false, false, true, false, false, false, false, false, false, false, false, false, false, false, false, true, true, true, true, true, true, true, true, true, true, true, true, true, true, true, true, true, true, true, true, true, false, false, false, false, false, false, false, false, false, false, false, false, false, false, false, false, false, false, false, false, false, false, false, false, true, true, true, true, true, true, true, true, true, true, true, true, true, true, true, true, true, true, true, true, true, true, true, true, true, true, true, true, true, true, true, true, true, true, true, true, true, true, true, true, true, true, true, true, true, true, true, true, true, true, true, true, true, true, true, true, true, true, true, true, true, true, true, true, true, true, true, true, true, true, true, true, true, true, true, true, true, true, true, true, true, true, true, true]
abbrev m_S_init : Nat := 0
abbrev m_Tape_init : Nat := 1
abbrev m_Batch_init : Nat := 2
abbrev m_Bins_init : Nat := 3
abbrev m_Store_init : Nat := 4
abbrev m_Log_init : Nat := 5
abbrev m_Formats_init : Nat := 6
abbrev m_String_length : Nat := 7
abbrev m_String_coder : Nat := 8
abbrev m_Snapshots_init : Nat := 9
abbrev m_Arrays_fill : Nat := 10
abbrev m_S_feed : Nat := 11
abbrev m_S_within : Nat := 12
abbrev m_Tape_add : Nat := 13
abbrev m_S_ask : Nat := 14
abbrev m_S_isStream : Nat := 15
abbrev m_Tape_begin : Nat := 16
abbrev m_Tape_command : Nat := 17
abbrev m_Tape_word : Nat := 18
abbrev m_Tape_wordEnd : Nat := 19
abbrev m_String_charAt : Nat := 20
abbrev m_String_isLatin1 : Nat := 21
abbrev m_StringLatin1_charAt : Nat := 22
abbrev m_Tape_isSame : Nat := 23
abbrev m_Tape_fail : Nat := 24
abbrev m_Command_init : Nat := 25
abbrev m_Tape_take : Nat := 26
abbrev m_Tape_peek : Nat := 27
abbrev m_Tape_formula : Nat := 28
abbrev m_Tape_part : Nat := 29
abbrev m_Tape_operand : Nat := 30
abbrev m_Tape_isFigure : Nat := 31
abbrev m_Tape_number : Nat := 32
abbrev m_Tape_emit : Nat := 33
abbrev m_Tape_letter : Nat := 34
abbrev m_String_indexOf0 : Nat := 35
abbrev m_String_indexOf1 : Nat := 36
abbrev m_StringLatin1_indexOf : Nat := 37
abbrev m_StringLatin1_canEncode : Nat := 38
abbrev m_Math_max : Nat := 39
abbrev m_Math_min : Nat := 40
abbrev m_StringLatin1_indexOfChar : Nat := 41
abbrev m_Tape_signsOf : Nat := 42
abbrev m_Arrays_copyOf : Nat := 43
abbrev m_Formula_init : Nat := 44
abbrev m_Tape_end : Nat := 45
abbrev m_Store_asked : Nat := 46
abbrev m_Store_tell : Nat := 47
abbrev m_Log_versionOf : Nat := 48
abbrev m_Store_carry : Nat := 49
abbrev m_Bins_refusal : Nat := 50
abbrev m_Bins_get : Nat := 51
abbrev m_Command_events : Nat := 52
abbrev m_Log_room : Nat := 53
abbrev m_Store_come : Nat := 54
abbrev m_Formats_formatOf : Nat := 55
abbrev m_Log_add : Nat := 56
abbrev m_Log_put : Nat := 57
abbrev m_Bins_change : Nat := 58
abbrev m_Bins_put : Nat := 59
abbrev m_Bins_more : Nat := 60
abbrev m_Snapshots_add : Nat := 61
abbrev m_Snapshots_dropOldest : Nat := 62
abbrev m_S_batch : Nat := 63
abbrev m_Tape_readLines : Nat := 64
abbrev m_Batch_clear : Nat := 65
abbrev m_Batch_add : Nat := 66
abbrev m_Store_carryAll : Nat := 67
abbrev m_Batch_think : Nat := 68
abbrev m_Bins_copyFrom : Nat := 69
abbrev m_Batch_commandOf : Nat := 70
abbrev m_Batch_streamOf : Nat := 71
abbrev m_Batch_carry : Nat := 72
abbrev m_S_upcast : Nat := 73
abbrev m_Store_addUpcaster : Nat := 74
abbrev m_Formats_add : Nat := 75
abbrev m_Store_foldPast : Nat := 76
abbrev m_Bins_clear : Nat := 77
abbrev m_Store_changePast : Nat := 78
abbrev m_Formats_read : Nat := 79
abbrev m_Log_get : Nat := 80
abbrev m_Log_has : Nat := 81
abbrev m_Formats_change : Nat := 82
abbrev m_Formula_give : Nat := 83
abbrev m_Formula_letterOf : Nat := 84
abbrev m_Formula_join : Nat := 85
abbrev m_Formats_letter : Nat := 86
abbrev m_S_state : Nat := 87
abbrev m_S_at : Nat := 88
abbrev m_S_isVersion : Nat := 89
abbrev m_Log_positionOf : Nat := 90
abbrev m_S_steps : Nat := 91
abbrev m_Snapshots_latestGood : Nat := 92
abbrev m_Snapshots_sizeOf : Nat := 93
abbrev m_Snapshots_isGood : Nat := 94
abbrev m_S_snap : Nat := 95
abbrev m_dup96 : Nat := 96
abbrev m_dup97 : Nat := 97
abbrev m_S_every : Nat := 98
abbrev m_S_event : Nat := 99
abbrev m_dup100 : Nat := 100
abbrev m_dup101 : Nat := 101
abbrev m_dup102 : Nat := 102
abbrev m_dup103 : Nat := 103
abbrev m_dup104 : Nat := 104
abbrev m_dup105 : Nat := 105
abbrev m_S_find : Nat := 106
abbrev m_dup107 : Nat := 107
abbrev m_dup108 : Nat := 108
abbrev m_S_project : Nat := 109
abbrev m_S_isSlot : Nat := 110
abbrev m_Tape_projection : Nat := 111
abbrev m_Tape_kinds : Nat := 112
abbrev m_Tape_always : Nat := 113
abbrev m_Projection_init : Nat := 114
abbrev m_S_rebuild : Nat := 115
abbrev m_Projection_afresh : Nat := 116
abbrev m_S_deliver : Nat := 117
abbrev m_Store_projectionOf : Nat := 118
abbrev m_Store_handOver : Nat := 119
abbrev m_Store_handle : Nat := 120
abbrev m_Projection_handle : Nat := 121
abbrev m_Projection_has : Nat := 122
abbrev m_Projection_folded : Nat := 123
abbrev m_S_swap : Nat := 124
abbrev m_S_look : Nat := 125
abbrev m_Projection_size : Nat := 126
abbrev m_Integer_bitCount : Nat := 127
abbrev m_Store_isTrue : Nat := 128
abbrev m_Projection_sameRows : Nat := 129
abbrev m_Projection_sum : Nat := 130
abbrev m_S_row : Nat := 131
abbrev m_S_policy : Nat := 132
abbrev m_Tape_policyText : Nat := 133
abbrev m_Policy_init : Nat := 134
abbrev m_S_run : Nat := 135
abbrev m_Store_runPolicy : Nat := 136
abbrev m_Store_hasHandled : Nat := 137
abbrev m_Policy_isFor : Nat := 138
abbrev m_Command_amountBy : Nat := 139
abbrev m_dup140 : Nat := 140
abbrev m_dup141 : Nat := 141
abbrev m_dup142 : Nat := 142
abbrev m_dup143 : Nat := 143
abbrev m_dup144 : Nat := 144
abbrev m_dup145 : Nat := 145
abbrev m_dup146 : Nat := 146
abbrev m_dup147 : Nat := 147
abbrev m_dup148 : Nat := 148
abbrev m_dup149 : Nat := 149
abbrev m_dup150 : Nat := 150
abbrev m_dup151 : Nat := 151
abbrev m_dup152 : Nat := 152
abbrev m_dup153 : Nat := 153
abbrev m_dup154 : Nat := 154
abbrev m_dup155 : Nat := 155
abbrev m_dup156 : Nat := 156
abbrev m_dup157 : Nat := 157
abbrev m_dup158 : Nat := 158
abbrev m_dup159 : Nat := 159
abbrev m_dup160 : Nat := 160
abbrev m_S_led : Nat := 161
abbrev m_S_count : Nat := 162
abbrev m_Log_streamsUsed : Nat := 163
abbrev m_Store_numbersUsed : Nat := 164
abbrev m_Snapshots_total : Nat := 165
abbrev m_Store_liveOnes : Nat := 166
abbrev m_SB_init : Nat := 167
abbrev m_SB_appS : Nat := 168
abbrev m_SB_appI : Nat := 169
abbrev m_SB_toString : Nat := 170
abbrev m_SB_length : Nat := 171
abbrev m_AB_init : Nat := 172
abbrev m_AB_appS : Nat := 173
abbrev m_AB_appI : Nat := 174
abbrev m_AB_ensure : Nat := 175
abbrev m_AB_newCap : Nat := 176
abbrev m_AB_isLatin1 : Nat := 177
abbrev m_AB_putStr : Nat := 178
abbrev m_AB_inflIf : Nat := 179
abbrev m_AB_getValue : Nat := 180
abbrev m_AB_length : Nat := 181
abbrev m_String_initB : Nat := 182
abbrev m_String_initA : Nat := 183
abbrev m_String_getBytes : Nat := 184
abbrev m_Integer_size : Nat := 185
abbrev m_Integer_getChars : Nat := 186
abbrev m_Arrays_copyOfB : Nat := 187
abbrev m_Arrays_range : Nat := 188
abbrev m_Arrays_rangeB : Nat := 189
abbrev m_Arrays_chkLen : Nat := 190
abbrev m_AS_newLength : Nat := 191
abbrev m_L_cell : Nat := 192
abbrev m_L_tell : Nat := 193
abbrev m_L_asks : Nat := 194
abbrev m_L_bins : Nat := 195
abbrev m_L_streamOf : Nat := 196
abbrev m_L_kindOf : Nat := 197
abbrev m_L_amountOf : Nat := 198
abbrev m_L_targetOf : Nat := 199
abbrev m_L_text : Nat := 200
abbrev m_L_isSo : Nat := 201
abbrev m_L_opened : Nat := 202
abbrev m_L_isFolded : Nat := 203
abbrev m_dup204 : Nat := 204
abbrev m_dup205 : Nat := 205
abbrev m_dup206 : Nat := 206
abbrev m_dup207 : Nat := 207
abbrev m_dup208 : Nat := 208
abbrev m_dup209 : Nat := 209
abbrev m_dup210 : Nat := 210
abbrev m_dup211 : Nat := 211
abbrev m_dup212 : Nat := 212
abbrev m_dup213 : Nat := 213
abbrev m_dup214 : Nat := 214
abbrev m_dup215 : Nat := 215
abbrev m_dup216 : Nat := 216
abbrev m_dup217 : Nat := 217
abbrev m_dup218 : Nat := 218
abbrev m_dup219 : Nat := 219
abbrev m_dup220 : Nat := 220
abbrev m_dup221 : Nat := 221
abbrev m_dup222 : Nat := 222
abbrev m_dup223 : Nat := 223
abbrev m_dup224 : Nat := 224
abbrev m_dup225 : Nat := 225
abbrev m_dup226 : Nat := 226
abbrev m_dup227 : Nat := 227
abbrev m_dup228 : Nat := 228
abbrev m_dup229 : Nat := 229
abbrev m_dup230 : Nat := 230
abbrev m_dup231 : Nat := 231
abbrev m_dup232 : Nat := 232
abbrev m_dup233 : Nat := 233
abbrev m_dup234 : Nat := 234
abbrev m_dup235 : Nat := 235
abbrev m_dup236 : Nat := 236
abbrev m_dup237 : Nat := 237
abbrev m_dup238 : Nat := 238
abbrev m_dup239 : Nat := 239
abbrev m_dup240 : Nat := 240
abbrev m_dup241 : Nat := 241
abbrev m_dup242 : Nat := 242
abbrev m_dup243 : Nat := 243
abbrev m_dup244 : Nat := 244
abbrev m_dup245 : Nat := 245
abbrev m_dup246 : Nat := 246
abbrev m_dup247 : Nat := 247
abbrev m_dup248 : Nat := 248
abbrev m_dup249 : Nat := 249
abbrev m_dup250 : Nat := 250
abbrev m_dup251 : Nat := 251
abbrev m_dup252 : Nat := 252
abbrev m_dup253 : Nat := 253
abbrev m_dup254 : Nat := 254
abbrev m_dup255 : Nat := 255
abbrev m_dup256 : Nat := 256
abbrev m_dup257 : Nat := 257
abbrev m_dup258 : Nat := 258
abbrev m_dup259 : Nat := 259
abbrev m_dup260 : Nat := 260
abbrev m_dup261 : Nat := 261
abbrev m_dup262 : Nat := 262
abbrev m_dup263 : Nat := 263
abbrev m_dup264 : Nat := 264
abbrev m_dup265 : Nat := 265
abbrev m_dup266 : Nat := 266
abbrev m_dup267 : Nat := 267
abbrev m_law : Nat := 268
def fTab : List (Nat × Nat × Nat × Nat) := [(10, 9, 10, 0), (10, 15, 10, 1), (10, 20, 10, 2), (10, 61, 10, 3), (10, 28, 10, 4), (11, 199, 10, 4), (10, 31, 10, 5), (10, 24, 10, 6), (1, 9, 1, 0), (0, 9, 0, 0), (0, 17, 0, 1), (0, 24, 0, 2), (0, 28, 0, 3), (9, 181, 0, 3), (0, 36, 0, 4), (9, 178, 0, 4), (0, 39, 0, 5), (9, 195, 0, 5), (0, 42, 0, 6), (9, 184, 0, 6), (5, 9, 5, 0), (5, 15, 5, 1), (5, 18, 5, 2), (5, 27, 5, 4), (9, 200, 5, 4), (11, 176, 5, 4), (3, 9, 3, 0), (3, 17, 3, 1), (3, 21, 3, 2), (3, 32, 3, 3), (9, 229, 3, 3), (3, 41, 3, 4), (9, 167, 3, 4), (11, 135, 3, 4), (8, 9, 8, 0), (8, 15, 8, 1), (8, 18, 8, 2), (9, 12, 9, 0), (11, 95, 9, 0), (9, 21, 9, 1), (11, 104, 9, 1), (9, 25, 9, 2), (11, 124, 9, 2), (9, 31, 9, 3), (11, 131, 9, 3), (9, 38, 9, 4), (11, 127, 9, 4), (9, 42, 9, 5), (9, 48, 9, 6), (11, 192, 9, 6), (9, 52, 9, 7), (11, 196, 9, 7), (9, 57, 9, 8), (11, 238, 9, 8), (9, 61, 9, 9), (9, 70, 9, 10), (9, 73, 9, 11), (11, 307, 9, 11), (9, 84, 9, 12), (9, 113, 9, 13), (11, 156, 9, 13), (11, 14, 11, 0), (11, 21, 11, 1), (11, 28, 11, 2), (11, 32, 11, 3), (11, 35, 11, 4), (2, 9, 2, 0), (9, 146, 2, 0), (0, 68, 2, 0), (1, 38, 2, 0), (2, 15, 2, 1), (9, 128, 2, 1), (0, 54, 2, 1), (2, 18, 2, 2), (9, 149, 2, 2), (0, 75, 2, 2), (1, 44, 2, 2), (2, 21, 2, 3), (4, 7, 4, 0), (4, 13, 4, 1), (7, 9, 7, 0), (7, 15, 7, 1), (7, 18, 7, 2), (7, 21, 7, 3), (7, 25, 7, 4), (11, 227, 7, 4), (7, 42, 7, 5), (9, 222, 7, 6), (11, 213, 7, 6), (6, 7, 6, 0), (6, 13, 6, 1), (6, 17, 6, 2), (9, 251, 6, 2), (9, 242, 6, 3), (11, 235, 6, 3), (9, 259, 6, 4), (9, 262, 6, 5), (19, 15, 12, 0), (19, 22, 12, 1), (13, 1048, 12, 2), (19, 79, 12, 3), (13, 9, 13, 0), (13, 15, 13, 1)]
def mTab : List (Nat × Nat × Nat) := [(18, 117, 0), (11, 13, 1), (11, 20, 2), (0, 23, 3), (11, 27, 4), (9, 11, 5), (9, 20, 3), (9, 30, 6), (3, 26, 7), (13, 335, 8), (9, 37, 9), (9, 64, 10), (9, 78, 7), (18, 33, 14), (11, 47, 15), (11, 39, 12), (11, 51, 16), (11, 54, 17), (10, 110, 18), (10, 42, 19), (10, 45, 7), (10, 49, 20), (13, 492, 21), (13, 495, 22), (10, 53, 23), (10, 34, 24), (10, 116, 25), (10, 105, 26), (10, 38, 27), (10, 119, 28), (10, 64, 29), (10, 79, 30), (10, 57, 31), (10, 99, 32), (10, 90, 33), (10, 102, 34), (10, 86, 35), (13, 633, 36), (13, 505, 7), (13, 637, 37), (14, 88, 38), (14, 92, 39), (14, 38, 40), (14, 95, 41), (10, 82, 42), (10, 70, 43), (17, 304, 40), (10, 76, 44), (11, 58, 45), (11, 62, 46), (9, 120, 47), (9, 124, 48), (9, 133, 49), (9, 137, 50), (1, 27, 51), (9, 140, 52), (9, 143, 53), (9, 152, 54), (9, 156, 55), (9, 159, 56), (5, 39, 53), (5, 43, 57), (9, 163, 58), (1, 31, 59), (1, 35, 60), (9, 170, 61), (8, 27, 62), (18, 167, 63), (11, 66, 64), (10, 125, 65), (10, 130, 17), (10, 134, 66), (11, 70, 67), (9, 172, 68), (0, 32, 69), (0, 46, 70), (0, 50, 71), (0, 57, 50), (0, 61, 52), (0, 64, 72), (0, 71, 58), (9, 188, 70), (9, 192, 71), (18, 158, 73), (11, 76, 18), (11, 80, 26), (11, 86, 28), (11, 90, 74), (9, 197, 75), (3, 45, 55), (9, 202, 76), (9, 205, 77), (1, 15, 10), (9, 208, 78), (9, 211, 79), (3, 49, 80), (5, 35, 81), (5, 31, 12), (3, 55, 82), (3, 59, 83), (4, 16, 84), (4, 20, 85), (9, 215, 80), (9, 219, 86), (9, 91, 69), (18, 141, 95), (11, 99, 48), (11, 147, 61), (18, 144, 98), (18, 105, 99), (11, 159, 81), (11, 162, 80), (11, 163, 79), (11, 167, 86), (18, 123, 109), (11, 185, 110), (11, 188, 111), (10, 146, 112), (10, 153, 113), (10, 161, 114), (18, 184, 115), (11, 200, 116), (7, 29, 114), (18, 147, 117), (11, 205, 118), (11, 209, 119), (9, 225, 120), (9, 232, 121), (7, 48, 83), (7, 54, 122), (7, 58, 123), (7, 62, 39), (7, 67, 40), (18, 187, 124), (18, 177, 125), (11, 216, 126), (7, 70, 127), (11, 219, 128), (9, 235, 116), (9, 238, 129), (11, 223, 130), (18, 180, 131), (11, 226, 122), (18, 130, 132), (11, 231, 133), (10, 170, 134), (18, 151, 135), (11, 242, 136), (9, 243, 137), (9, 247, 138), (6, 33, 83), (9, 255, 139), (2, 25, 83), (2, 31, 40), (2, 37, 39), (18, 174, 161), (18, 24, 162), (11, 310, 163), (11, 313, 164), (11, 316, 165), (11, 319, 166), (18, 133, 192), (18, 27, 193), (18, 8, 7), (18, 14, 20), (18, 18, 11), (11, 43, 13), (18, 101, 195), (18, 82, 196), (18, 137, 200), (18, 39, 197), (18, 60, 167), (12, 1, 172), (18, 61, 168), (12, 29, 173), (19, 100, 175), (19, 104, 176), (19, 114, 191), (20, 194, 39), (19, 108, 187), (19, 83, 177), (19, 32, 7), (19, 208, 178), (19, 397, 179), (19, 40, 8), (19, 399, 184), (18, 67, 198), (18, 70, 169), (12, 53, 174), (19, 245, 185), (19, 248, 186), (18, 73, 170), (12, 137, 182), (13, 489, 183), (13, 552, 180), (12, 343, 181), (13, 1047, 177), (13, 54, 188), (17, 339, 189), (17, 343, 190), (18, 79, 199), (18, 118, 202), (18, 91, 194), (18, 97, 201), (18, 85, 87), (11, 108, 51), (18, 170, 203), (18, 108, 106), (11, 114, 89), (11, 118, 90), (5, 47, 80), (18, 111, 91), (11, 141, 92), (8, 31, 93), (8, 35, 94), (8, 39, 39), (18, 114, 88), (11, 121, 76)]
/-- calls that name another method than the one that runs -/
def uTab : List (Nat × Nat × Nat) := [(13, 549, 171)]
def nTab : List (Nat × Nat × Nat) := [(18, 19, 11), (11, 11, 10), (11, 18, 0), (0, 15, 2), (0, 21, 1), (11, 25, 9), (9, 9, 5), (9, 18, 1), (9, 28, 3), (3, 15, 4), (9, 35, 8), (9, 46, 7), (9, 55, 6), (10, 114, 2), (10, 68, 4), (10, 159, 7), (7, 10, 7), (10, 168, 6), (18, 9, 13), (18, 58, 12), (12, 18, 13)]
def kTab : List (Nat × Nat × Int32) := [(11, 94, -2000000000), (15, 265, 1431655765), (15, 266, 858993459), (15, 267, 252645135), (18, 7, 16777215), (20, 200, 2147483639), (19, 39, 2147483647), (18, 183, -2000000000)]
def klTab : List (Nat × Nat × Nat) := []
def sTab : List (Nat × Nat × Nat) := [(10, 18, 1), (3, 24, 3), (9, 76, 5), (10, 108, 7), (10, 93, 9), (10, 95, 11), (10, 97, 13), (10, 123, 15), (11, 74, 17), (11, 84, 19), (18, 42, 21), (10, 142, 23), (10, 144, 25), (10, 138, 27), (10, 140, 29), (10, 149, 31), (10, 151, 33), (10, 157, 35), (10, 162, 37), (10, 164, 39), (10, 166, 41), (18, 44, 43), (18, 46, 106), (18, 48, 108), (18, 50, 110), (18, 52, 112), (18, 54, 114), (18, 56, 116), (18, 65, 118), (18, 77, 120), (18, 89, 122), (18, 95, 124), (18, 121, 126), (18, 126, 128), (18, 128, 130), (18, 154, 132), (18, 156, 134), (18, 161, 136), (18, 163, 138), (18, 165, 140)]
def oiTab : List (Nat × Nat) := [(11, 5), (10, 3), (0, 3), (1, 3), (9, 3), (5, 3), (3, 3), (8, 3), (2, 3), (4, 1), (7, 3), (6, 1), (19, 3), (13, 1)]
def acTab : List (Nat × Nat) := [(17, 150), (1, 21), (13, 212)]
def ciTab : List (Nat × Nat) := [(14, 9)]
/-- statics: 0 COMPACT_STRINGS, 1 DigitOnes, 2 DigitTens -/
def gsTab : List (Nat × Nat × Nat) := [(13, 38, 0), (19, 18, 0), (15, 83, 1), (15, 87, 2)]
def cnTab : List (Nat × Nat) := [(17, 316), (17, 310)]
def nfL : List Nat := [7, 1, 4, 5, 2, 5, 6, 7, 3, 15, 7, 5, 4, 4]
def ftL : List (List Nat) := [[1, 1, 1, 0, 0, 0, 2], [1], [0, 0, 0, 1], [1, 1, 1, 1, 0], [1, 1], [1, 1, 1, 0, 0], [0, 1, 1, 0, 0, 0], [0, 0, 0, 1, 1, 0, 0], [1, 1, 1], [1, 1, 1, 1, 1, 1, 1, 1, 1, 1, 1, 1, 1, 0, 0], [1, 1, 1, 0, 0, 0, 0], [1, 1, 1, 1, 2], [1, 3, 2, 0], [1, 3, 0, 2]]
def fnL : List (List Bool) := [[true, true, true, false, false, false, false], [true], [true, true, true, true], [true, true, true, true, false], [true, true], [true, true, true, false, false], [true, true, true, false, false, false], [true, true, true, true, true, false, false], [true, true, true], [true, true, true, true, true, true, true, true, true, true, true, true, true, false, false], [true, true, false, false, false, false, false], [true, true, true, true, false], [false, false, false, false], [true, true, false, false]]
abbrev k_Batch : Nat := 0
abbrev f_Batch_streams : Nat := 0
abbrev f_Batch_commands : Nat := 1
abbrev f_Batch_bins : Nat := 2
abbrev f_Batch_size : Nat := 3
abbrev f_Batch_through : Nat := 4
abbrev f_Batch_events : Nat := 5
abbrev f_Batch_refused : Nat := 6
abbrev k_Bins : Nat := 1
abbrev f_Bins_cells : Nat := 0
abbrev k_Command : Nat := 2
abbrev f_Command_kind : Nat := 0
abbrev f_Command_amount : Nat := 1
abbrev f_Command_target : Nat := 2
abbrev f_Command_formula : Nat := 3
abbrev k_Formats : Nat := 3
abbrev f_Formats_sizes : Nat := 0
abbrev f_Formats_toA : Nat := 1
abbrev f_Formats_toB : Nat := 2
abbrev f_Formats_letters : Nat := 3
abbrev f_Formats_era : Nat := 4
abbrev k_Formula : Nat := 4
abbrev f_Formula_code : Nat := 0
abbrev f_Formula_stack : Nat := 1
abbrev k_Log : Nat := 5
abbrev f_Log_cells : Nat := 0
abbrev f_Log_versions : Nat := 1
abbrev f_Log_line : Nat := 2
abbrev f_Log_lineLength : Nat := 3
abbrev f_Log_length : Nat := 4
abbrev k_Policy : Nat := 6
abbrev f_Policy_kinds : Nat := 0
abbrev f_Policy_condition : Nat := 1
abbrev f_Policy_command : Nat := 2
abbrev f_Policy_checkpoint : Nat := 3
abbrev f_Policy_done : Nat := 4
abbrev f_Policy_refused : Nat := 5
abbrev k_Projection : Nat := 7
abbrev f_Projection_fold : Nat := 0
abbrev f_Projection_kinds : Nat := 1
abbrev f_Projection_key : Nat := 2
abbrev f_Projection_condition : Nat := 3
abbrev f_Projection_rows : Nat := 4
abbrev f_Projection_present : Nat := 5
abbrev f_Projection_checkpoint : Nat := 6
abbrev k_Snapshots : Nat := 8
abbrev f_Snapshots_versions : Nat := 0
abbrev f_Snapshots_eras : Nat := 1
abbrev f_Snapshots_sizes : Nat := 2
abbrev k_Store : Nat := 9
abbrev f_Store_log : Nat := 0
abbrev f_Store_bins : Nat := 1
abbrev f_Store_past : Nat := 2
abbrev f_Store_formats : Nat := 3
abbrev f_Store_snapshots : Nat := 4
abbrev f_Store_answers : Nat := 5
abbrev f_Store_live : Nat := 6
abbrev f_Store_beside : Nat := 7
abbrev f_Store_policies : Nat := 8
abbrev f_Store_seenStream : Nat := 9
abbrev f_Store_seenVersion : Nat := 10
abbrev f_Store_led : Nat := 11
abbrev f_Store_stateLetters : Nat := 12
abbrev f_Store_every : Nat := 13
abbrev f_Store_harmless : Nat := 14
abbrev k_Tape : Nat := 10
abbrev f_Tape_bytes : Nat := 0
abbrev f_Tape_code : Nat := 1
abbrev f_Tape_letters : Nat := 2
abbrev f_Tape_codeLength : Nat := 3
abbrev f_Tape_length : Nat := 4
abbrev f_Tape_place : Nat := 5
abbrev f_Tape_fault : Nat := 6
abbrev k_S : Nat := 11
abbrev f_S_tape : Nat := 0
abbrev f_S_lines : Nat := 1
abbrev f_S_store : Nat := 2
abbrev f_S_kept : Nat := 3
abbrev f_S_imaged : Nat := 4
abbrev k_SB : Nat := 12
abbrev f_SB_value : Nat := 0
abbrev f_SB_coder : Nat := 1
abbrev f_SB_maybeLatin1 : Nat := 2
abbrev f_SB_count : Nat := 3
abbrev k_String : Nat := 13
abbrev f_String_value : Nat := 0
abbrev f_String_coder : Nat := 1
abbrev f_String_hash : Nat := 2
abbrev f_String_hashIsZero : Nat := 3
/-- which local variables are written as long ones -/
def lngT : List (Nat × Nat) := []
