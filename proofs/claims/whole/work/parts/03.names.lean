def RX0 : String := "StockEvents$Batch"
def TX0 : u_T := fun k => match k with
  | 0 => ("StockEvents$Batch", "streams", "[I", true)
  | 1 => ("StockEvents$Batch", "commands", "[LStockEvents$Command;", true)
  | 2 => ("StockEvents$Batch", "bins", "LStockEvents$Bins;", true)
  | 3 => ("StockEvents$Batch", "size", "I", false)
  | 4 => ("StockEvents$Batch", "through", "I", false)
  | 5 => ("StockEvents$Batch", "events", "I", false)
  | _ => ("StockEvents$Batch", "refused", "Z", false)
def tyX0 : Nat → FieldType := fun k => match k with
  | 0 => .array .int
  | 1 => .array (.object "StockEvents$Command")
  | 2 => .object "StockEvents$Bins"
  | 3 => .int
  | 4 => .int
  | 5 => .int
  | _ => .boolean
theorem nmX0 : ∀ a, a < 7 → ∀ b, b < 7 → a ≠ b → (TX0 a).2.1 ≠ (TX0 b).2.1 := by decide +kernel
theorem tyX0_ok : ∀ k, k < 7 → parseFieldDescriptor (TX0 k).2.2.1 = some (tyX0 k) := by decide +kernel
def RX1 : String := "StockEvents$Bins"
def TX1 : u_T := fun k => match k with
  | _ => ("StockEvents$Bins", "cells", "[I", true)
def tyX1 : Nat → FieldType := fun k => match k with
  | _ => .array .int
theorem nmX1 : ∀ a, a < 1 → ∀ b, b < 1 → a ≠ b → (TX1 a).2.1 ≠ (TX1 b).2.1 := by decide +kernel
theorem tyX1_ok : ∀ k, k < 1 → parseFieldDescriptor (TX1 k).2.2.1 = some (tyX1 k) := by decide +kernel
def RX2 : String := "StockEvents$Command"
def TX2 : u_T := fun k => match k with
  | 0 => ("StockEvents$Command", "kind", "I", true)
  | 1 => ("StockEvents$Command", "amount", "I", true)
  | 2 => ("StockEvents$Command", "target", "I", true)
  | _ => ("StockEvents$Command", "formula", "LStockEvents$Formula;", true)
def tyX2 : Nat → FieldType := fun k => match k with
  | 0 => .int
  | 1 => .int
  | 2 => .int
  | _ => .object "StockEvents$Formula"
theorem nmX2 : ∀ a, a < 4 → ∀ b, b < 4 → a ≠ b → (TX2 a).2.1 ≠ (TX2 b).2.1 := by decide +kernel
theorem tyX2_ok : ∀ k, k < 4 → parseFieldDescriptor (TX2 k).2.2.1 = some (tyX2 k) := by decide +kernel
def RX3 : String := "StockEvents$Formats"
def TX3 : u_T := fun k => match k with
  | 0 => ("StockEvents$Formats", "sizes", "[I", true)
  | 1 => ("StockEvents$Formats", "toA", "[LStockEvents$Formula;", true)
  | 2 => ("StockEvents$Formats", "toB", "[LStockEvents$Formula;", true)
  | 3 => ("StockEvents$Formats", "letters", "[I", true)
  | _ => ("StockEvents$Formats", "era", "I", false)
def tyX3 : Nat → FieldType := fun k => match k with
  | 0 => .array .int
  | 1 => .array (.object "StockEvents$Formula")
  | 2 => .array (.object "StockEvents$Formula")
  | 3 => .array .int
  | _ => .int
theorem nmX3 : ∀ a, a < 5 → ∀ b, b < 5 → a ≠ b → (TX3 a).2.1 ≠ (TX3 b).2.1 := by decide +kernel
theorem tyX3_ok : ∀ k, k < 5 → parseFieldDescriptor (TX3 k).2.2.1 = some (tyX3 k) := by decide +kernel
def RX4 : String := "StockEvents$Formula"
def TX4 : u_T := fun k => match k with
  | 0 => ("StockEvents$Formula", "code", "[I", true)
  | _ => ("StockEvents$Formula", "stack", "[I", true)
def tyX4 : Nat → FieldType := fun k => match k with
  | 0 => .array .int
  | _ => .array .int
theorem nmX4 : ∀ a, a < 2 → ∀ b, b < 2 → a ≠ b → (TX4 a).2.1 ≠ (TX4 b).2.1 := by decide +kernel
theorem tyX4_ok : ∀ k, k < 2 → parseFieldDescriptor (TX4 k).2.2.1 = some (tyX4 k) := by decide +kernel
def RX5 : String := "StockEvents$Log"
def TX5 : u_T := fun k => match k with
  | 0 => ("StockEvents$Log", "cells", "[I", true)
  | 1 => ("StockEvents$Log", "versions", "[I", true)
  | 2 => ("StockEvents$Log", "line", "[I", true)
  | 3 => ("StockEvents$Log", "lineLength", "I", false)
  | _ => ("StockEvents$Log", "length", "I", false)
def tyX5 : Nat → FieldType := fun k => match k with
  | 0 => .array .int
  | 1 => .array .int
  | 2 => .array .int
  | 3 => .int
  | _ => .int
theorem nmX5 : ∀ a, a < 5 → ∀ b, b < 5 → a ≠ b → (TX5 a).2.1 ≠ (TX5 b).2.1 := by decide +kernel
theorem tyX5_ok : ∀ k, k < 5 → parseFieldDescriptor (TX5 k).2.2.1 = some (tyX5 k) := by decide +kernel
def RX6 : String := "StockEvents$Policy"
def TX6 : u_T := fun k => match k with
  | 0 => ("StockEvents$Policy", "kinds", "I", true)
  | 1 => ("StockEvents$Policy", "condition", "LStockEvents$Formula;", true)
  | 2 => ("StockEvents$Policy", "command", "LStockEvents$Command;", true)
  | 3 => ("StockEvents$Policy", "checkpoint", "I", false)
  | 4 => ("StockEvents$Policy", "done", "I", false)
  | _ => ("StockEvents$Policy", "refused", "I", false)
def tyX6 : Nat → FieldType := fun k => match k with
  | 0 => .int
  | 1 => .object "StockEvents$Formula"
  | 2 => .object "StockEvents$Command"
  | 3 => .int
  | 4 => .int
  | _ => .int
theorem nmX6 : ∀ a, a < 6 → ∀ b, b < 6 → a ≠ b → (TX6 a).2.1 ≠ (TX6 b).2.1 := by decide +kernel
theorem tyX6_ok : ∀ k, k < 6 → parseFieldDescriptor (TX6 k).2.2.1 = some (tyX6 k) := by decide +kernel
def RX7 : String := "StockEvents$Projection"
def TX7 : u_T := fun k => match k with
  | 0 => ("StockEvents$Projection", "fold", "I", true)
  | 1 => ("StockEvents$Projection", "kinds", "I", true)
  | 2 => ("StockEvents$Projection", "key", "I", true)
  | 3 => ("StockEvents$Projection", "condition", "LStockEvents$Formula;", true)
  | 4 => ("StockEvents$Projection", "rows", "[I", true)
  | 5 => ("StockEvents$Projection", "present", "I", false)
  | _ => ("StockEvents$Projection", "checkpoint", "I", false)
def tyX7 : Nat → FieldType := fun k => match k with
  | 0 => .int
  | 1 => .int
  | 2 => .int
  | 3 => .object "StockEvents$Formula"
  | 4 => .array .int
  | 5 => .int
  | _ => .int
theorem nmX7 : ∀ a, a < 7 → ∀ b, b < 7 → a ≠ b → (TX7 a).2.1 ≠ (TX7 b).2.1 := by decide +kernel
theorem tyX7_ok : ∀ k, k < 7 → parseFieldDescriptor (TX7 k).2.2.1 = some (tyX7 k) := by decide +kernel
def RX8 : String := "StockEvents$Snapshots"
def TX8 : u_T := fun k => match k with
  | 0 => ("StockEvents$Snapshots", "versions", "[I", true)
  | 1 => ("StockEvents$Snapshots", "eras", "[I", true)
  | _ => ("StockEvents$Snapshots", "sizes", "[I", true)
def tyX8 : Nat → FieldType := fun k => match k with
  | 0 => .array .int
  | 1 => .array .int
  | _ => .array .int
theorem nmX8 : ∀ a, a < 3 → ∀ b, b < 3 → a ≠ b → (TX8 a).2.1 ≠ (TX8 b).2.1 := by decide +kernel
theorem tyX8_ok : ∀ k, k < 3 → parseFieldDescriptor (TX8 k).2.2.1 = some (tyX8 k) := by decide +kernel
def RX9 : String := "StockEvents$Store"
def TX9 : u_T := fun k => match k with
  | 0 => ("StockEvents$Store", "log", "LStockEvents$Log;", true)
  | 1 => ("StockEvents$Store", "bins", "LStockEvents$Bins;", true)
  | 2 => ("StockEvents$Store", "past", "LStockEvents$Bins;", true)
  | 3 => ("StockEvents$Store", "formats", "LStockEvents$Formats;", true)
  | 4 => ("StockEvents$Store", "snapshots", "LStockEvents$Snapshots;", true)
  | 5 => ("StockEvents$Store", "answers", "[I", true)
  | 6 => ("StockEvents$Store", "live", "[LStockEvents$Projection;", true)
  | 7 => ("StockEvents$Store", "beside", "[LStockEvents$Projection;", true)
  | 8 => ("StockEvents$Store", "policies", "[LStockEvents$Policy;", true)
  | 9 => ("StockEvents$Store", "seenStream", "[I", true)
  | 10 => ("StockEvents$Store", "seenVersion", "[I", true)
  | 11 => ("StockEvents$Store", "led", "[I", true)
  | 12 => ("StockEvents$Store", "stateLetters", "[I", true)
  | 13 => ("StockEvents$Store", "every", "I", false)
  | _ => ("StockEvents$Store", "harmless", "I", false)
def tyX9 : Nat → FieldType := fun k => match k with
  | 0 => .object "StockEvents$Log"
  | 1 => .object "StockEvents$Bins"
  | 2 => .object "StockEvents$Bins"
  | 3 => .object "StockEvents$Formats"
  | 4 => .object "StockEvents$Snapshots"
  | 5 => .array .int
  | 6 => .array (.object "StockEvents$Projection")
  | 7 => .array (.object "StockEvents$Projection")
  | 8 => .array (.object "StockEvents$Policy")
  | 9 => .array .int
  | 10 => .array .int
  | 11 => .array .int
  | 12 => .array .int
  | 13 => .int
  | _ => .int
theorem nmX9 : ∀ a, a < 15 → ∀ b, b < 15 → a ≠ b → (TX9 a).2.1 ≠ (TX9 b).2.1 := by decide +kernel
theorem tyX9_ok : ∀ k, k < 15 → parseFieldDescriptor (TX9 k).2.2.1 = some (tyX9 k) := by decide +kernel
def RX10 : String := "StockEvents$Tape"
def TX10 : u_T := fun k => match k with
  | 0 => ("StockEvents$Tape", "bytes", "[I", true)
  | 1 => ("StockEvents$Tape", "code", "[I", true)
  | 2 => ("StockEvents$Tape", "letters", "Ljava/lang/String;", false)
  | 3 => ("StockEvents$Tape", "codeLength", "I", false)
  | 4 => ("StockEvents$Tape", "length", "I", false)
  | 5 => ("StockEvents$Tape", "place", "I", false)
  | _ => ("StockEvents$Tape", "fault", "I", false)
def tyX10 : Nat → FieldType := fun k => match k with
  | 0 => .array .int
  | 1 => .array .int
  | 2 => .object "java/lang/String"
  | 3 => .int
  | 4 => .int
  | 5 => .int
  | _ => .int
theorem nmX10 : ∀ a, a < 7 → ∀ b, b < 7 → a ≠ b → (TX10 a).2.1 ≠ (TX10 b).2.1 := by decide +kernel
theorem tyX10_ok : ∀ k, k < 7 → parseFieldDescriptor (TX10 k).2.2.1 = some (tyX10 k) := by decide +kernel
def RX11 : String := "StockEvents"
def TX11 : u_T := fun k => match k with
  | 0 => ("StockEvents", "tape", "LStockEvents$Tape;", true)
  | 1 => ("StockEvents", "lines", "LStockEvents$Batch;", true)
  | 2 => ("StockEvents", "store", "LStockEvents$Store;", true)
  | 3 => ("StockEvents", "kept", "LStockEvents$Store;", true)
  | _ => ("StockEvents", "imaged", "Z", false)
def tyX11 : Nat → FieldType := fun k => match k with
  | 0 => .object "StockEvents$Tape"
  | 1 => .object "StockEvents$Batch"
  | 2 => .object "StockEvents$Store"
  | 3 => .object "StockEvents$Store"
  | _ => .boolean
theorem nmX11 : ∀ a, a < 5 → ∀ b, b < 5 → a ≠ b → (TX11 a).2.1 ≠ (TX11 b).2.1 := by decide +kernel
theorem tyX11_ok : ∀ k, k < 5 → parseFieldDescriptor (TX11 k).2.2.1 = some (tyX11 k) := by decide +kernel
def RX12 : String := "StockEventsModel"
def TX12 : u_T := fun k => match k with
  | 0 => ("StockEventsModel", "code", "I", false)
  | 1 => ("StockEventsModel", "tape", "[I", true)
  | 2 => ("StockEventsModel", "taped", "I", false)
  | 3 => ("StockEventsModel", "at", "I", false)
  | 4 => ("StockEventsModel", "fault", "I", false)
  | 5 => ("StockEventsModel", "wordAt", "I", false)
  | 6 => ("StockEventsModel", "words", "[I", true)
  | 7 => ("StockEventsModel", "formula", "[I", true)
  | 8 => ("StockEventsModel", "formulaMany", "[I", true)
  | 9 => ("StockEventsModel", "slot", "I", false)
  | 10 => ("StockEventsModel", "open", "I", false)
  | 11 => ("StockEventsModel", "watches", "Z", false)
  | 12 => ("StockEventsModel", "pile", "[I", true)
  | 13 => ("StockEventsModel", "given", "[I", true)
  | 14 => ("StockEventsModel", "events", "I", false)
  | 15 => ("StockEventsModel", "streamOf", "[I", true)
  | 16 => ("StockEventsModel", "versionOf", "[I", true)
  | 17 => ("StockEventsModel", "kindOf", "[I", true)
  | 18 => ("StockEventsModel", "formatOf", "[I", true)
  | 19 => ("StockEventsModel", "aOf", "[I", true)
  | 20 => ("StockEventsModel", "bOf", "[I", true)
  | 21 => ("StockEventsModel", "casts", "[I", true)
  | 22 => ("StockEventsModel", "era", "I", false)
  | 23 => ("StockEventsModel", "every", "I", false)
  | 24 => ("StockEventsModel", "version", "[I", true)
  | 25 => ("StockEventsModel", "readA", "I", false)
  | 26 => ("StockEventsModel", "readB", "I", false)
  | 27 => ("StockEventsModel", "state", "[I", true)
  | 28 => ("StockEventsModel", "snapMany", "[I", true)
  | 29 => ("StockEventsModel", "snapVersion", "[I", true)
  | 30 => ("StockEventsModel", "snapEra", "[I", true)
  | 31 => ("StockEventsModel", "command", "I", false)
  | 32 => ("StockEventsModel", "amount", "I", false)
  | 33 => ("StockEventsModel", "target", "I", false)
  | 34 => ("StockEventsModel", "byFormula", "Z", false)
  | 35 => ("StockEventsModel", "led", "[I", true)
  | 36 => ("StockEventsModel", "answered", "[I", true)
  | 37 => ("StockEventsModel", "lines", "I", false)
  | 38 => ("StockEventsModel", "lineStream", "[I", true)
  | 39 => ("StockEventsModel", "lineCommand", "[I", true)
  | 40 => ("StockEventsModel", "lineAmount", "[I", true)
  | 41 => ("StockEventsModel", "lineTarget", "[I", true)
  | 42 => ("StockEventsModel", "refused", "Z", false)
  | 43 => ("StockEventsModel", "wereMany", "[I", true)
  | 44 => ("StockEventsModel", "wereVersion", "[I", true)
  | 45 => ("StockEventsModel", "wereEra", "[I", true)
  | 46 => ("StockEventsModel", "written", "[I", true)
  | 47 => ("StockEventsModel", "writtenMany", "I", false)
  | 48 => ("StockEventsModel", "isThere", "[I", true)
  | 49 => ("StockEventsModel", "foldOf", "[I", true)
  | 50 => ("StockEventsModel", "kindsOf", "[I", true)
  | 51 => ("StockEventsModel", "keyOf", "[I", true)
  | 52 => ("StockEventsModel", "hasIf", "[I", true)
  | 53 => ("StockEventsModel", "checkpoint", "[I", true)
  | 54 => ("StockEventsModel", "hasRow", "[I", true)
  | 55 => ("StockEventsModel", "row", "[I", true)
  | 56 => ("StockEventsModel", "newFold", "I", false)
  | 57 => ("StockEventsModel", "newKinds", "I", false)
  | 58 => ("StockEventsModel", "newKey", "I", false)
  | 59 => ("StockEventsModel", "newIf", "I", false)
  | 60 => ("StockEventsModel", "hasTrue", "[I", true)
  | 61 => ("StockEventsModel", "trueRow", "[I", true)
  | 62 => ("StockEventsModel", "isTold", "[I", true)
  | 63 => ("StockEventsModel", "onKinds", "[I", true)
  | 64 => ("StockEventsModel", "onIf", "[I", true)
  | 65 => ("StockEventsModel", "does", "[I", true)
  | 66 => ("StockEventsModel", "doesBy", "[I", true)
  | 67 => ("StockEventsModel", "doesAmount", "[I", true)
  | 68 => ("StockEventsModel", "doesTo", "[I", true)
  | 69 => ("StockEventsModel", "ranTo", "[I", true)
  | 70 => ("StockEventsModel", "didMany", "[I", true)
  | 71 => ("StockEventsModel", "refusedMany", "[I", true)
  | 72 => ("StockEventsModel", "hasSeen", "[I", true)
  | 73 => ("StockEventsModel", "seenStream", "[I", true)
  | 74 => ("StockEventsModel", "seenVersion", "[I", true)
  | 75 => ("StockEventsModel", "harmless", "I", false)
  | 76 => ("StockEventsModel", "hasImage", "Z", false)
  | 77 => ("StockEventsModel", "image", "[I", true)
  | _ => ("StockEventsModel", "imageAt", "I", false)
def tyX12 : Nat → FieldType := fun k => match k with
  | 0 => .int
  | 1 => .array .int
  | 2 => .int
  | 3 => .int
  | 4 => .int
  | 5 => .int
  | 6 => .array .int
  | 7 => .array .int
  | 8 => .array .int
  | 9 => .int
  | 10 => .int
  | 11 => .boolean
  | 12 => .array .int
  | 13 => .array .int
  | 14 => .int
  | 15 => .array .int
  | 16 => .array .int
  | 17 => .array .int
  | 18 => .array .int
  | 19 => .array .int
  | 20 => .array .int
  | 21 => .array .int
  | 22 => .int
  | 23 => .int
  | 24 => .array .int
  | 25 => .int
  | 26 => .int
  | 27 => .array .int
  | 28 => .array .int
  | 29 => .array .int
  | 30 => .array .int
  | 31 => .int
  | 32 => .int
  | 33 => .int
  | 34 => .boolean
  | 35 => .array .int
  | 36 => .array .int
  | 37 => .int
  | 38 => .array .int
  | 39 => .array .int
  | 40 => .array .int
  | 41 => .array .int
  | 42 => .boolean
  | 43 => .array .int
  | 44 => .array .int
  | 45 => .array .int
  | 46 => .array .int
  | 47 => .int
  | 48 => .array .int
  | 49 => .array .int
  | 50 => .array .int
  | 51 => .array .int
  | 52 => .array .int
  | 53 => .array .int
  | 54 => .array .int
  | 55 => .array .int
  | 56 => .int
  | 57 => .int
  | 58 => .int
  | 59 => .int
  | 60 => .array .int
  | 61 => .array .int
  | 62 => .array .int
  | 63 => .array .int
  | 64 => .array .int
  | 65 => .array .int
  | 66 => .array .int
  | 67 => .array .int
  | 68 => .array .int
  | 69 => .array .int
  | 70 => .array .int
  | 71 => .array .int
  | 72 => .array .int
  | 73 => .array .int
  | 74 => .array .int
  | 75 => .int
  | 76 => .boolean
  | 77 => .array .int
  | _ => .int
theorem nmX12 : ∀ a, a < 79 → ∀ b, b < 79 → a ≠ b → (TX12 a).2.1 ≠ (TX12 b).2.1 := by decide +kernel
theorem tyX12_ok : ∀ k, k < 79 → parseFieldDescriptor (TX12 k).2.2.1 = some (tyX12 k) := by decide +kernel
abbrev vwCl : List vw_C := [(RX0, TX0, 7), (RX1, TX1, 1), (RX2, TX2, 4), (RX3, TX3, 5), (RX4, TX4, 2), (RX5, TX5, 5), (RX6, TX6, 6), (RX7, TX7, 7), (RX8, TX8, 3), (RX9, TX9, 15), (RX10, TX10, 7), (RX11, TX11, 5), (RX12, TX12, 79)]
def cNmL : List String := ["StockEvents$Batch", "StockEvents$Bins", "StockEvents$Command", "StockEvents$Formats", "StockEvents$Formula", "StockEvents$Log", "StockEvents$Policy", "StockEvents$Projection", "StockEvents$Snapshots", "StockEvents$Store", "StockEvents$Tape", "StockEvents", "StockEventsModel", "java/lang/String", "java/lang/StringLatin1", "java/lang/Integer", "java/lang/Math", "java/util/Arrays", "StockEventsLaw"]
def cNm (c : Nat) : String := cNmL.getD c ""
/-! methods: name, bytecode, locals, what is returned -/
def mtd_0 : List (MethodName × ByteArray × Nat × Option FieldType) := [(⟨"StockEvents", "<init>", "()V"⟩, prog_1_method_1_code, 1, none),
  (⟨"StockEvents$Tape", "<init>", "()V"⟩, prog_12_method_1_code, 1, none),
  (⟨"StockEvents$Batch", "<init>", "()V"⟩, prog_2_method_1_code, 1, none),
  (⟨"StockEvents$Bins", "<init>", "()V"⟩, prog_3_method_1_code, 1, none),
  (⟨"StockEvents$Store", "<init>", "()V"⟩, prog_11_method_1_code, 1, none),
  (⟨"StockEvents$Log", "<init>", "()V"⟩, prog_7_method_1_code, 1, none),
  (⟨"StockEvents$Formats", "<init>", "()V"⟩, prog_5_method_1_code, 1, none),
  (⟨"java/lang/String", "length", "()I"⟩, prog_19_method_54_code, 1, (some FieldType.int)),
  (⟨"java/lang/String", "coder", "()B"⟩, prog_19_method_152_code, 1, (some FieldType.byte)),
  (⟨"StockEvents$Snapshots", "<init>", "()V"⟩, prog_10_method_1_code, 1, none),
  (⟨"java/util/Arrays", "fill", "([II)V"⟩, prog_23_method_103_code, 4, none),
  (⟨"StockEvents", "feed", "(I)I"⟩, prog_1_method_2_code, 2, (some FieldType.int)),
  (⟨"StockEvents", "within", "(III)Z"⟩, prog_1_method_39_code, 3, (some FieldType.boolean)),
  (⟨"StockEvents$Tape", "add", "(I)I"⟩, prog_12_method_2_code, 2, (some FieldType.int)),
  (⟨"StockEvents", "ask", "(III)I"⟩, prog_1_method_3_code, 6, (some FieldType.int)),
  (⟨"StockEvents", "isStream", "(I)Z"⟩, prog_1_method_37_code, 1, (some FieldType.boolean)),
  (⟨"StockEvents$Tape", "begin", "()V"⟩, prog_12_method_3_code, 1, none),
  (⟨"StockEvents$Tape", "command", "(Z)LStockEvents$Command;"⟩, prog_12_method_19_code, 6, (some (FieldType.object "StockEvents$Command"))),
  (⟨"StockEvents$Tape", "word", "(Ljava/lang/String;)I"⟩, prog_12_method_8_code, 7, (some FieldType.int)),
  (⟨"StockEvents$Tape", "wordEnd", "()I"⟩, prog_12_method_9_code, 2, (some FieldType.int)),
  (⟨"java/lang/String", "charAt", "(I)C"⟩, prog_19_method_56_code, 2, (some FieldType.char)),
  (⟨"java/lang/String", "isLatin1", "()Z"⟩, prog_19_method_154_code, 1, (some FieldType.boolean)),
  (⟨"java/lang/StringLatin1", "charAt", "([BI)C"⟩, prog_20_method_2_code, 2, (some FieldType.char)),
  (⟨"StockEvents$Tape", "isSame", "(Ljava/lang/String;III)Z"⟩, prog_12_method_10_code, 7, (some FieldType.boolean)),
  (⟨"StockEvents$Tape", "fail", "(I)V"⟩, prog_12_method_5_code, 2, none),
  (⟨"StockEvents$Command", "<init>", "(IIILStockEvents$Formula;)V"⟩, prog_4_method_1_code, 5, none),
  (⟨"StockEvents$Tape", "take", "(I)V"⟩, prog_12_method_7_code, 2, none),
  (⟨"StockEvents$Tape", "peek", "()I"⟩, prog_12_method_6_code, 1, (some FieldType.int)),
  (⟨"StockEvents$Tape", "formula", "(Ljava/lang/String;I)LStockEvents$Formula;"⟩, prog_12_method_13_code, 3, (some (FieldType.object "StockEvents$Formula"))),
  (⟨"StockEvents$Tape", "part", "(II)V"⟩, prog_12_method_14_code, 6, none),
  (⟨"StockEvents$Tape", "operand", "(I)V"⟩, prog_12_method_16_code, 3, none),
  (⟨"StockEvents$Tape", "isFigure", "(I)Z"⟩, prog_12_method_12_code, 1, (some FieldType.boolean)),
  (⟨"StockEvents$Tape", "number", "(I)I"⟩, prog_12_method_11_code, 5, (some FieldType.int)),
  (⟨"StockEvents$Tape", "emit", "(I)V"⟩, prog_12_method_18_code, 2, none),
  (⟨"StockEvents$Tape", "letter", "()V"⟩, prog_12_method_17_code, 2, none),
  (⟨"java/lang/String", "indexOf", "(I)I"⟩, prog_19_method_79_code, 2, (some FieldType.int)),
  (⟨"java/lang/String", "indexOf", "(II)I"⟩, prog_19_method_80_code, 3, (some FieldType.int)),
  (⟨"java/lang/StringLatin1", "indexOf", "([BIII)I"⟩, prog_20_method_22_code, 4, (some FieldType.int)),
  (⟨"java/lang/StringLatin1", "canEncode", "(I)Z"⟩, prog_20_method_4_code, 1, (some FieldType.boolean)),
  (⟨"java/lang/Math", "max", "(II)I"⟩, prog_18_method_65_code, 2, (some FieldType.int))]
def mtd_1 : List (MethodName × ByteArray × Nat × Option FieldType) := [(⟨"java/lang/Math", "min", "(II)I"⟩, prog_18_method_69_code, 2, (some FieldType.int)),
  (⟨"java/lang/StringLatin1", "indexOfChar", "([BIII)I"⟩, prog_20_method_23_code, 6, (some FieldType.int)),
  (⟨"StockEvents$Tape", "signsOf", "(I)Ljava/lang/String;"⟩, prog_12_method_15_code, 1, (some (FieldType.object "java/lang/String"))),
  (⟨"java/util/Arrays", "copyOf", "([II)[I"⟩, prog_23_method_123_code, 3, (some (FieldType.array FieldType.int))),
  (⟨"StockEvents$Formula", "<init>", "([I)V"⟩, prog_6_method_1_code, 2, none),
  (⟨"StockEvents$Tape", "end", "()I"⟩, prog_12_method_4_code, 1, (some FieldType.int)),
  (⟨"StockEvents$Store", "asked", "(IIILStockEvents$Command;)I"⟩, prog_11_method_4_code, 7, (some FieldType.int)),
  (⟨"StockEvents$Store", "tell", "(I)V"⟩, prog_11_method_3_code, 2, none),
  (⟨"StockEvents$Log", "versionOf", "(I)I"⟩, prog_7_method_6_code, 2, (some FieldType.int)),
  (⟨"StockEvents$Store", "carry", "(ILStockEvents$Command;I)I"⟩, prog_11_method_5_code, 5, (some FieldType.int)),
  (⟨"StockEvents$Bins", "refusal", "(ILStockEvents$Command;I)I"⟩, prog_3_method_8_code, 6, (some FieldType.int)),
  (⟨"StockEvents$Bins", "get", "(II)I"⟩, prog_3_method_4_code, 4, (some FieldType.int)),
  (⟨"StockEvents$Command", "events", "()I"⟩, prog_4_method_2_code, 1, (some FieldType.int)),
  (⟨"StockEvents$Log", "room", "()I"⟩, prog_7_method_4_code, 1, (some FieldType.int)),
  (⟨"StockEvents$Store", "come", "(IIII)V"⟩, prog_11_method_6_code, 6, none),
  (⟨"StockEvents$Formats", "formatOf", "(I)I"⟩, prog_5_method_3_code, 2, (some FieldType.int)),
  (⟨"StockEvents$Log", "add", "(IIIII)V"⟩, prog_7_method_7_code, 6, none),
  (⟨"StockEvents$Log", "put", "(II)V"⟩, prog_7_method_8_code, 4, none),
  (⟨"StockEvents$Bins", "change", "(III)V"⟩, prog_3_method_7_code, 4, none),
  (⟨"StockEvents$Bins", "put", "(III)V"⟩, prog_3_method_5_code, 5, none),
  (⟨"StockEvents$Bins", "more", "(III)V"⟩, prog_3_method_6_code, 4, none),
  (⟨"StockEvents$Snapshots", "add", "(III)V"⟩, prog_10_method_3_code, 6, none),
  (⟨"StockEvents$Snapshots", "dropOldest", "(I)V"⟩, prog_10_method_4_code, 3, none),
  (⟨"StockEvents", "batch", "()I"⟩, prog_1_method_4_code, 2, (some FieldType.int)),
  (⟨"StockEvents$Tape", "readLines", "(LStockEvents$Batch;)V"⟩, prog_12_method_20_code, 4, none),
  (⟨"StockEvents$Batch", "clear", "()V"⟩, prog_2_method_2_code, 1, none),
  (⟨"StockEvents$Batch", "add", "(ILStockEvents$Command;)V"⟩, prog_2_method_3_code, 3, none),
  (⟨"StockEvents$Store", "carryAll", "(LStockEvents$Batch;)I"⟩, prog_11_method_7_code, 4, (some FieldType.int)),
  (⟨"StockEvents$Batch", "think", "(LStockEvents$Bins;I)V"⟩, prog_2_method_6_code, 5, none),
  (⟨"StockEvents$Bins", "copyFrom", "(LStockEvents$Bins;)V"⟩, prog_3_method_3_code, 2, none),
  (⟨"StockEvents$Batch", "commandOf", "(I)LStockEvents$Command;"⟩, prog_2_method_5_code, 2, (some (FieldType.object "StockEvents$Command"))),
  (⟨"StockEvents$Batch", "streamOf", "(I)I"⟩, prog_2_method_4_code, 2, (some FieldType.int)),
  (⟨"StockEvents$Batch", "carry", "(ILStockEvents$Command;)V"⟩, prog_2_method_7_code, 3, none),
  (⟨"StockEvents", "upcast", "()I"⟩, prog_1_method_5_code, 5, (some FieldType.int)),
  (⟨"StockEvents$Store", "addUpcaster", "(ILStockEvents$Formula;LStockEvents$Formula;)I"⟩, prog_11_method_8_code, 5, (some FieldType.int)),
  (⟨"StockEvents$Formats", "add", "(ILStockEvents$Formula;LStockEvents$Formula;)I"⟩, prog_5_method_4_code, 5, (some FieldType.int)),
  (⟨"StockEvents$Store", "foldPast", "(I)V"⟩, prog_11_method_9_code, 3, none),
  (⟨"StockEvents$Bins", "clear", "()V"⟩, prog_3_method_2_code, 1, none),
  (⟨"StockEvents$Store", "changePast", "(I)V"⟩, prog_11_method_10_code, 2, none),
  (⟨"StockEvents$Formats", "read", "(LStockEvents$Log;I)V"⟩, prog_5_method_6_code, 6, none)]
def mtd_2 : List (MethodName × ByteArray × Nat × Option FieldType) := [(⟨"StockEvents$Log", "get", "(II)I"⟩, prog_7_method_5_code, 4, (some FieldType.int)),
  (⟨"StockEvents$Log", "has", "(I)Z"⟩, prog_7_method_3_code, 2, (some FieldType.boolean)),
  (⟨"StockEvents$Formats", "change", "(LStockEvents$Formula;LStockEvents$Formula;)V"⟩, prog_5_method_7_code, 5, none),
  (⟨"StockEvents$Formula", "give", "([I)I"⟩, prog_6_method_2_code, 5, (some FieldType.int)),
  (⟨"StockEvents$Formula", "letterOf", "([II)I"⟩, prog_6_method_3_code, 2, (some FieldType.int)),
  (⟨"StockEvents$Formula", "join", "(III)I"⟩, prog_6_method_4_code, 3, (some FieldType.int)),
  (⟨"StockEvents$Formats", "letter", "(I)I"⟩, prog_5_method_5_code, 2, (some FieldType.int)),
  (⟨"StockEvents", "state", "(II)I"⟩, prog_1_method_6_code, 3, (some FieldType.int)),
  (⟨"StockEvents", "at", "(III)I"⟩, prog_1_method_7_code, 4, (some FieldType.int)),
  (⟨"StockEvents", "isVersion", "(II)Z"⟩, prog_1_method_36_code, 3, (some FieldType.boolean)),
  (⟨"StockEvents$Log", "positionOf", "(II)I"⟩, prog_7_method_9_code, 4, (some FieldType.int)),
  (⟨"StockEvents", "steps", "(II)I"⟩, prog_1_method_8_code, 3, (some FieldType.int)),
  (⟨"StockEvents$Snapshots", "latestGood", "(III)I"⟩, prog_10_method_8_code, 7, (some FieldType.int)),
  (⟨"StockEvents$Snapshots", "sizeOf", "(I)I"⟩, prog_10_method_5_code, 2, (some FieldType.int)),
  (⟨"StockEvents$Snapshots", "isGood", "(II)Z"⟩, prog_10_method_6_code, 3, (some FieldType.boolean)),
  (⟨"StockEvents", "snap", "(I)I"⟩, prog_1_method_9_code, 3, (some FieldType.int)),
  (⟨"StockEvents", "snaps", "(II)I"⟩, prog_1_method_10_code, 3, (some FieldType.int)),
  (⟨"StockEvents$Snapshots", "goodOf", "(II)I"⟩, prog_10_method_7_code, 5, (some FieldType.int)),
  (⟨"StockEvents", "every", "(I)I"⟩, prog_1_method_11_code, 3, (some FieldType.int)),
  (⟨"StockEvents", "event", "(II)I"⟩, prog_1_method_12_code, 3, (some FieldType.int)),
  (⟨"StockEvents", "text", "(II)I"⟩, prog_1_method_13_code, 4, (some FieldType.int)),
  (⟨"StockEvents$Log", "write", "(I)I"⟩, prog_7_method_12_code, 2, (some FieldType.int)),
  (⟨"StockEvents$Log", "writeNumber", "(I)V"⟩, prog_7_method_16_code, 9, none),
  (⟨"StockEvents$Log", "writeSign", "(I)V"⟩, prog_7_method_14_code, 2, none),
  (⟨"StockEvents$Log", "writeKind", "(I)V"⟩, prog_7_method_15_code, 5, none),
  (⟨"StockEvents$Log", "written", "(I)I"⟩, prog_7_method_13_code, 2, (some FieldType.int)),
  (⟨"StockEvents", "find", "(II)I"⟩, prog_1_method_14_code, 3, (some FieldType.int)),
  (⟨"StockEvents", "worth", "(I)J"⟩, prog_1_method_15_code, 2, (some FieldType.long)),
  (⟨"StockEvents$Bins", "worthOfOpen", "()J"⟩, prog_3_method_9_code, 4, (some FieldType.long)),
  (⟨"StockEvents", "project", "(I)I"⟩, prog_1_method_16_code, 4, (some FieldType.int)),
  (⟨"StockEvents", "isSlot", "(I)Z"⟩, prog_1_method_38_code, 1, (some FieldType.boolean)),
  (⟨"StockEvents$Tape", "projection", "()LStockEvents$Projection;"⟩, prog_12_method_22_code, 5, (some (FieldType.object "StockEvents$Projection"))),
  (⟨"StockEvents$Tape", "kinds", "()I"⟩, prog_12_method_21_code, 4, (some FieldType.int)),
  (⟨"StockEvents$Tape", "always", "()LStockEvents$Formula;"⟩, prog_12_method_24_code, 1, (some (FieldType.object "StockEvents$Formula"))),
  (⟨"StockEvents$Projection", "<init>", "(IIILStockEvents$Formula;)V"⟩, prog_9_method_1_code, 5, none),
  (⟨"StockEvents", "rebuild", "(I)I"⟩, prog_1_method_17_code, 5, (some FieldType.int)),
  (⟨"StockEvents$Projection", "afresh", "()LStockEvents$Projection;"⟩, prog_9_method_2_code, 1, (some (FieldType.object "StockEvents$Projection"))),
  (⟨"StockEvents", "deliver", "(IIII)I"⟩, prog_1_method_18_code, 6, (some FieldType.int)),
  (⟨"StockEvents$Store", "projectionOf", "(II)LStockEvents$Projection;"⟩, prog_11_method_11_code, 3, (some (FieldType.object "StockEvents$Projection"))),
  (⟨"StockEvents$Store", "handOver", "(LStockEvents$Projection;II)I"⟩, prog_11_method_12_code, 7, (some FieldType.int))]
def mtd_3 : List (MethodName × ByteArray × Nat × Option FieldType) := [(⟨"StockEvents$Store", "handle", "(LStockEvents$Projection;I)V"⟩, prog_11_method_13_code, 3, none),
  (⟨"StockEvents$Projection", "handle", "(I[I)V"⟩, prog_9_method_5_code, 4, none),
  (⟨"StockEvents$Projection", "has", "(I)Z"⟩, prog_9_method_4_code, 2, (some FieldType.boolean)),
  (⟨"StockEvents$Projection", "folded", "(II)I"⟩, prog_9_method_6_code, 3, (some FieldType.int)),
  (⟨"StockEvents", "swap", "(I)I"⟩, prog_1_method_19_code, 4, (some FieldType.int)),
  (⟨"StockEvents", "look", "(III)I"⟩, prog_1_method_20_code, 5, (some FieldType.int)),
  (⟨"StockEvents$Projection", "size", "()I"⟩, prog_9_method_7_code, 1, (some FieldType.int)),
  (⟨"java/lang/Integer", "bitCount", "(I)I"⟩, prog_17_method_49_code, 1, (some FieldType.int)),
  (⟨"StockEvents$Store", "isTrue", "(LStockEvents$Projection;)Z"⟩, prog_11_method_14_code, 4, (some FieldType.boolean)),
  (⟨"StockEvents$Projection", "sameRows", "(LStockEvents$Projection;)Z"⟩, prog_9_method_9_code, 3, (some FieldType.boolean)),
  (⟨"StockEvents$Projection", "sum", "()I"⟩, prog_9_method_8_code, 3, (some FieldType.int)),
  (⟨"StockEvents", "row", "(III)I"⟩, prog_1_method_21_code, 5, (some FieldType.int)),
  (⟨"StockEvents", "policy", "(I)I"⟩, prog_1_method_22_code, 4, (some FieldType.int)),
  (⟨"StockEvents$Tape", "policyText", "()LStockEvents$Policy;"⟩, prog_12_method_23_code, 3, (some (FieldType.object "StockEvents$Policy"))),
  (⟨"StockEvents$Policy", "<init>", "(ILStockEvents$Formula;LStockEvents$Command;)V"⟩, prog_8_method_1_code, 4, none),
  (⟨"StockEvents", "run", "(II)I"⟩, prog_1_method_23_code, 4, (some FieldType.int)),
  (⟨"StockEvents$Store", "runPolicy", "(LStockEvents$Policy;I)I"⟩, prog_11_method_17_code, 4, (some FieldType.int)),
  (⟨"StockEvents$Store", "hasHandled", "(LStockEvents$Policy;I)Z"⟩, prog_11_method_18_code, 5, (some FieldType.boolean)),
  (⟨"StockEvents$Policy", "isFor", "(I[I)Z"⟩, prog_8_method_3_code, 3, (some FieldType.boolean)),
  (⟨"StockEvents$Command", "amountBy", "([I)I"⟩, prog_4_method_3_code, 2, (some FieldType.int)),
  (⟨"StockEvents", "policyOf", "(II)I"⟩, prog_1_method_24_code, 4, (some FieldType.int)),
  (⟨"StockEvents", "see", "(II)I"⟩, prog_1_method_25_code, 3, (some FieldType.int)),
  (⟨"StockEvents", "harmless", "()I"⟩, prog_1_method_26_code, 3, (some FieldType.int)),
  (⟨"StockEvents", "attempt", "(II)I"⟩, prog_1_method_27_code, 5, (some FieldType.int)),
  (⟨"StockEvents$Store", "tried", "(IZLStockEvents$Command;)I"⟩, prog_11_method_19_code, 8, (some FieldType.int)),
  (⟨"StockEvents$Log", "onlyThese", "(III)Z"⟩, prog_7_method_11_code, 6, (some FieldType.boolean)),
  (⟨"StockEvents", "watch", "(II)I"⟩, prog_1_method_28_code, 5, (some FieldType.int)),
  (⟨"StockEvents$Store", "watched", "(IILStockEvents$Formula;)I"⟩, prog_11_method_20_code, 11, (some FieldType.int)),
  (⟨"StockEvents$Store", "isSeen", "(LStockEvents$Formula;II)Z"⟩, prog_11_method_21_code, 5, (some FieldType.boolean)),
  (⟨"StockEvents", "foresee", "(II)J"⟩, prog_1_method_29_code, 4, (some FieldType.long)),
  (⟨"StockEvents", "tally", "(IIII)I"⟩, prog_1_method_30_code, 5, (some FieldType.int)),
  (⟨"StockEvents$Store", "tallied", "(IIII)I"⟩, prog_11_method_22_code, 10, (some FieldType.int)),
  (⟨"StockEvents", "digest", "(I)J"⟩, prog_1_method_31_code, 6, (some FieldType.long)),
  (⟨"StockEvents", "image", "()I"⟩, prog_1_method_32_code, 1, (some FieldType.int)),
  (⟨"StockEvents$Store", "copyFrom", "(LStockEvents$Store;)V"⟩, prog_11_method_2_code, 3, none),
  (⟨"StockEvents$Log", "copyFrom", "(LStockEvents$Log;)V"⟩, prog_7_method_2_code, 2, none),
  (⟨"StockEvents$Formats", "copyFrom", "(LStockEvents$Formats;)V"⟩, prog_5_method_2_code, 3, none),
  (⟨"StockEvents$Snapshots", "copyFrom", "(LStockEvents$Snapshots;)V"⟩, prog_10_method_2_code, 2, none),
  (⟨"StockEvents$Projection", "copy", "()LStockEvents$Projection;"⟩, prog_9_method_3_code, 2, (some (FieldType.object "StockEvents$Projection"))),
  (⟨"StockEvents$Policy", "copy", "()LStockEvents$Policy;"⟩, prog_8_method_2_code, 2, (some (FieldType.object "StockEvents$Policy")))]
def mtd_4 : List (MethodName × ByteArray × Nat × Option FieldType) := [(⟨"StockEvents", "back", "()I"⟩, prog_1_method_33_code, 1, (some FieldType.int)),
  (⟨"StockEvents", "led", "(I)I"⟩, prog_1_method_34_code, 2, (some FieldType.int)),
  (⟨"StockEvents", "count", "(I)I"⟩, prog_1_method_35_code, 2, (some FieldType.int)),
  (⟨"StockEvents$Log", "streamsUsed", "()I"⟩, prog_7_method_10_code, 3, (some FieldType.int)),
  (⟨"StockEvents$Store", "numbersUsed", "()I"⟩, prog_11_method_16_code, 3, (some FieldType.int)),
  (⟨"StockEvents$Snapshots", "total", "()I"⟩, prog_10_method_9_code, 3, (some FieldType.int)),
  (⟨"StockEvents$Store", "liveOnes", "()I"⟩, prog_11_method_15_code, 3, (some FieldType.int)),
  (⟨"StockEventsModel", "<init>", "()V"⟩, prog_14_method_1_code, 1, none),
  (⟨"StockEventsModel", "feed", "(I)I"⟩, prog_14_method_4_code, 2, (some FieldType.int)),
  (⟨"StockEventsModel", "in", "(III)Z"⟩, prog_14_method_3_code, 3, (some FieldType.boolean)),
  (⟨"StockEventsModel", "upcast", "()I"⟩, prog_14_method_34_code, 2, (some FieldType.int)),
  (⟨"StockEventsModel", "beginReading", "()V"⟩, prog_14_method_7_code, 1, none),
  (⟨"StockEventsModel", "readWord", "(II)I"⟩, prog_14_method_11_code, 5, (some FieldType.int)),
  (⟨"StockEventsModel", "isWord", "(III)Z"⟩, prog_14_method_10_code, 6, (some FieldType.boolean)),
  (⟨"StockEventsModel", "placeOfWord", "(I)I"⟩, prog_14_method_9_code, 4, (some FieldType.int)),
  (⟨"StockEventsModel", "wrong", "(I)V"⟩, prog_14_method_6_code, 2, none),
  (⟨"StockEventsModel", "expect", "(I)V"⟩, prog_14_method_13_code, 2, none),
  (⟨"StockEventsModel", "here", "()I"⟩, prog_14_method_5_code, 1, (some FieldType.int)),
  (⟨"StockEventsModel", "readFormula", "(IZ)V"⟩, prog_14_method_26_code, 3, none),
  (⟨"StockEventsModel", "readCompared", "()V"⟩, prog_14_method_25_code, 2, none),
  (⟨"StockEventsModel", "readSum", "()V"⟩, prog_14_method_24_code, 2, none),
  (⟨"StockEventsModel", "readProduct", "()V"⟩, prog_14_method_23_code, 2, none),
  (⟨"StockEventsModel", "readOperand", "()V"⟩, prog_14_method_21_code, 3, none),
  (⟨"StockEventsModel", "readNumber", "(I)I"⟩, prog_14_method_14_code, 4, (some FieldType.int)),
  (⟨"StockEventsModel", "put", "(I)V"⟩, prog_14_method_18_code, 2, none),
  (⟨"StockEventsModel", "variable", "(I)I"⟩, prog_14_method_19_code, 2, (some FieldType.int)),
  (⟨"StockEventsModel", "opens", "()V"⟩, prog_14_method_20_code, 1, none),
  (⟨"StockEventsModel", "readBracketed", "()V"⟩, prog_14_method_22_code, 1, none),
  (⟨"StockEventsModel", "endReading", "()I"⟩, prog_14_method_8_code, 1, (some FieldType.int)),
  (⟨"StockEventsModel", "castSlot", "(III)I"⟩, prog_14_method_15_code, 3, (some FieldType.int)),
  (⟨"StockEventsModel", "copyFormula", "(II)V"⟩, prog_14_method_27_code, 4, none),
  (⟨"StockEventsModel", "state", "(II)I"⟩, prog_14_method_38_code, 3, (some FieldType.int)),
  (⟨"StockEventsModel", "isStream", "(I)Z"⟩, prog_14_method_30_code, 1, (some FieldType.boolean)),
  (⟨"StockEventsModel", "foldNow", "(I)V"⟩, prog_14_method_37_code, 2, none),
  (⟨"StockEventsModel", "fold", "(III)V"⟩, prog_14_method_36_code, 5, none),
  (⟨"StockEventsModel", "read", "(I)V"⟩, prog_14_method_32_code, 5, none),
  (⟨"StockEventsModel", "worked", "(I)I"⟩, prog_14_method_29_code, 6, (some FieldType.int)),
  (⟨"StockEventsModel", "joined", "(III)I"⟩, prog_14_method_28_code, 3, (some FieldType.int)),
  (⟨"StockEventsModel", "change", "(II)V"⟩, prog_14_method_35_code, 3, none),
  (⟨"StockEventsModel", "at", "(III)I"⟩, prog_14_method_40_code, 4, (some FieldType.int))]
def mtd_5 : List (MethodName × ByteArray × Nat × Option FieldType) := [(⟨"StockEventsModel", "isVersion", "(II)Z"⟩, prog_14_method_39_code, 3, (some FieldType.boolean)),
  (⟨"StockEventsModel", "steps", "(II)I"⟩, prog_14_method_42_code, 6, (some FieldType.int)),
  (⟨"StockEventsModel", "snap", "(I)I"⟩, prog_14_method_43_code, 2, (some FieldType.int)),
  (⟨"StockEventsModel", "takeSnap", "(I)V"⟩, prog_14_method_41_code, 4, none),
  (⟨"StockEventsModel", "snaps", "(II)I"⟩, prog_14_method_44_code, 5, (some FieldType.int)),
  (⟨"StockEventsModel", "every", "(I)I"⟩, prog_14_method_45_code, 3, (some FieldType.int)),
  (⟨"StockEventsModel", "ask", "(III)I"⟩, prog_14_method_54_code, 5, (some FieldType.int)),
  (⟨"StockEventsModel", "readAlone", "()I"⟩, prog_14_method_53_code, 1, (some FieldType.int)),
  (⟨"StockEventsModel", "readCommand", "(ZI)V"⟩, prog_14_method_48_code, 3, none),
  (⟨"StockEventsModel", "asked", "(I)I"⟩, prog_14_method_52_code, 3, (some FieldType.int)),
  (⟨"StockEventsModel", "refusal", "(I)I"⟩, prog_14_method_49_code, 5, (some FieldType.int)),
  (⟨"StockEventsModel", "hasRoom", "()Z"⟩, prog_14_method_50_code, 1, (some FieldType.boolean)),
  (⟨"StockEventsModel", "happen", "(I)V"⟩, prog_14_method_51_code, 2, none),
  (⟨"StockEventsModel", "addEvent", "(IIII)V"⟩, prog_14_method_46_code, 5, none),
  (⟨"StockEventsModel", "batch", "()I"⟩, prog_14_method_60_code, 3, (some FieldType.int)),
  (⟨"StockEventsModel", "readBatch", "()I"⟩, prog_14_method_56_code, 1, (some FieldType.int)),
  (⟨"StockEventsModel", "readLine", "()V"⟩, prog_14_method_55_code, 1, none),
  (⟨"StockEventsModel", "keepSnaps", "(Z)V"⟩, prog_14_method_59_code, 3, none),
  (⟨"StockEventsModel", "through", "()I"⟩, prog_14_method_58_code, 2, (some FieldType.int)),
  (⟨"StockEventsModel", "takeLine", "(I)V"⟩, prog_14_method_57_code, 2, none),
  (⟨"StockEventsModel", "cutTo", "(I)V"⟩, prog_14_method_47_code, 2, none),
  (⟨"StockEventsModel", "foresee", "(II)J"⟩, prog_14_method_61_code, 6, (some FieldType.long)),
  (⟨"StockEventsModel", "event", "(II)I"⟩, prog_14_method_62_code, 3, (some FieldType.int)),
  (⟨"StockEventsModel", "isPosition", "(I)Z"⟩, prog_14_method_31_code, 2, (some FieldType.boolean)),
  (⟨"StockEventsModel", "text", "(II)I"⟩, prog_14_method_66_code, 3, (some FieldType.int)),
  (⟨"StockEventsModel", "writeEvent", "(I)V"⟩, prog_14_method_65_code, 3, none),
  (⟨"StockEventsModel", "writeNumber", "(I)V"⟩, prog_14_method_64_code, 6, none),
  (⟨"StockEventsModel", "write", "(I)V"⟩, prog_14_method_63_code, 2, none),
  (⟨"StockEventsModel", "find", "(II)I"⟩, prog_14_method_67_code, 4, (some FieldType.int)),
  (⟨"StockEventsModel", "worth", "(I)J"⟩, prog_14_method_68_code, 5, (some FieldType.long)),
  (⟨"StockEventsModel", "tally", "(IIII)I"⟩, prog_14_method_69_code, 9, (some FieldType.int)),
  (⟨"StockEventsModel", "digest", "(I)J"⟩, prog_14_method_70_code, 5, (some FieldType.long)),
  (⟨"StockEventsModel", "project", "(I)I"⟩, prog_14_method_76_code, 2, (some FieldType.int)),
  (⟨"StockEventsModel", "isProjection", "(I)Z"⟩, prog_14_method_75_code, 1, (some FieldType.boolean)),
  (⟨"StockEventsModel", "readProjection", "()I"⟩, prog_14_method_72_code, 1, (some FieldType.int)),
  (⟨"StockEventsModel", "readKinds", "()I"⟩, prog_14_method_71_code, 2, (some FieldType.int)),
  (⟨"StockEventsModel", "isNext", "(I)Z"⟩, prog_14_method_12_code, 3, (some FieldType.boolean)),
  (⟨"StockEventsModel", "layProjection", "(II)V"⟩, prog_14_method_74_code, 4, none),
  (⟨"StockEventsModel", "projectionSlot", "(II)I"⟩, prog_14_method_16_code, 2, (some FieldType.int)),
  (⟨"StockEventsModel", "begin", "(I)V"⟩, prog_14_method_73_code, 3, none)]
def mtd_6 : List (MethodName × ByteArray × Nat × Option FieldType) := [(⟨"StockEventsModel", "rebuild", "(I)I"⟩, prog_14_method_77_code, 2, (some FieldType.int)),
  (⟨"StockEventsModel", "deliver", "(IIII)I"⟩, prog_14_method_79_code, 9, (some FieldType.int)),
  (⟨"StockEventsModel", "handle", "(III[I[II)V"⟩, prog_14_method_78_code, 9, none),
  (⟨"StockEventsModel", "giveRead", "(I)V"⟩, prog_14_method_33_code, 2, none),
  (⟨"StockEventsModel", "swap", "(I)I"⟩, prog_14_method_80_code, 4, (some FieldType.int)),
  (⟨"StockEventsModel", "look", "(III)I"⟩, prog_14_method_83_code, 8, (some FieldType.int)),
  (⟨"StockEventsModel", "isOne", "(II)Z"⟩, prog_14_method_82_code, 3, (some FieldType.boolean)),
  (⟨"StockEventsModel", "isTrue", "(II)Z"⟩, prog_14_method_81_code, 4, (some FieldType.boolean)),
  (⟨"StockEventsModel", "row", "(III)I"⟩, prog_14_method_84_code, 5, (some FieldType.int)),
  (⟨"StockEventsModel", "policy", "(I)I"⟩, prog_14_method_86_code, 4, (some FieldType.int)),
  (⟨"StockEventsModel", "isPolicy", "(I)Z"⟩, prog_14_method_85_code, 1, (some FieldType.boolean)),
  (⟨"StockEventsModel", "policySlot", "(II)I"⟩, prog_14_method_17_code, 2, (some FieldType.int)),
  (⟨"StockEventsModel", "run", "(II)I"⟩, prog_14_method_88_code, 4, (some FieldType.int)),
  (⟨"StockEventsModel", "ranOver", "(II)Z"⟩, prog_14_method_87_code, 4, (some FieldType.boolean)),
  (⟨"StockEventsModel", "policyOf", "(II)I"⟩, prog_14_method_89_code, 3, (some FieldType.int)),
  (⟨"StockEventsModel", "see", "(II)I"⟩, prog_14_method_91_code, 3, (some FieldType.int)),
  (⟨"StockEventsModel", "isClient", "(I)Z"⟩, prog_14_method_90_code, 1, (some FieldType.boolean)),
  (⟨"StockEventsModel", "harmless", "()I"⟩, prog_14_method_92_code, 4, (some FieldType.int)),
  (⟨"StockEventsModel", "attempt", "(II)I"⟩, prog_14_method_94_code, 5, (some FieldType.int)),
  (⟨"StockEventsModel", "allHarmless", "(II)Z"⟩, prog_14_method_93_code, 4, (some FieldType.boolean)),
  (⟨"StockEventsModel", "watch", "(II)I"⟩, prog_14_method_95_code, 10, (some FieldType.int)),
  (⟨"StockEventsModel", "image", "()I"⟩, prog_14_method_99_code, 1, (some FieldType.int)),
  (⟨"StockEventsModel", "swapAll", "(Z)V"⟩, prog_14_method_98_code, 3, none),
  (⟨"StockEventsModel", "swapOne", "(IZ)I"⟩, prog_14_method_96_code, 4, (some FieldType.int)),
  (⟨"StockEventsModel", "swapRow", "([IZ)V"⟩, prog_14_method_97_code, 4, none),
  (⟨"StockEventsModel", "back", "()I"⟩, prog_14_method_100_code, 1, (some FieldType.int)),
  (⟨"StockEventsModel", "led", "(I)I"⟩, prog_14_method_101_code, 2, (some FieldType.int)),
  (⟨"StockEventsModel", "count", "(I)I"⟩, prog_14_method_102_code, 4, (some FieldType.int))]
def mtdL : List (MethodName × ByteArray × Nat × Option FieldType) := mtd_0 ++ (mtd_1 ++ (mtd_2 ++ (mtd_3 ++ (mtd_4 ++ (mtd_5 ++ (mtd_6))))))
def mxL : List Nat := [1, 1, 1, 1, 1, 1, 1, 1, 1, 1, 4, 2, 3, 2, 6, 1, 1, 6, 7, 2, 2, 1, 2, 7, 2, 5, 2, 1, 3, 6, 3, 1, 5, 2, 2, 2, 3, 4, 1, 2, 2, 6, 1, 3, 2, 1, 7, 2, 2, 5, 6, 4, 1, 1, 6, 2, 6, 4, 4, 5, 4, 6, 3, 2, 4, 1, 3, 4, 5, 2, 2, 2, 3, 5, 5, 5, 3, 1, 2, 6, 4, 2, 5, 5, 2, 3, 2, 3, 4, 3, 4, 3, 7, 2, 3, 3, 3, 5, 3, 3, 4, 2, 9, 2, 5, 2, 3, 2, 4, 4, 1, 5, 4, 1, 5, 5, 1, 6, 3, 7, 3, 4, 2, 3, 4, 5, 1, 1, 4, 3, 3, 5, 4, 3, 4, 4, 4, 5, 3, 2, 4, 3, 3, 5, 8, 6, 5, 11, 5, 4, 5, 10, 6, 1, 3, 2, 3, 2, 2, 2, 1, 2, 2, 3, 3, 3, 3, 1, 2, 3, 2, 1, 5, 6, 4, 2, 2, 1, 3, 2, 2, 2, 3, 4, 2, 2, 1, 1, 1, 3, 4, 3, 1, 2, 5, 5, 6, 3, 3, 4, 3, 6, 2, 4, 5, 3, 5, 1, 3, 3, 5, 1, 2, 5, 3, 1, 1, 3, 2, 2, 2, 6, 3, 2, 3, 3, 6, 2, 4, 5, 9, 5, 2, 1, 1, 2, 3, 4, 2, 3, 2, 9, 9, 2, 4, 8, 3, 4, 5, 4, 1, 2, 4, 4, 3, 3, 1, 4, 5, 4, 10, 1, 3, 4, 4, 1, 2, 4, 4]
def rkL : List Nat := [0, 0, 0, 0, 0, 0, 0, 1, 4, 0, 0, 1, 2, 1, 1, 2, 0, 6, 1, 1, 3, 2, 3, 2, 0, 0, 0, 1, 6, 0, 0, 2, 1, 0, 0, 1, 1, 1, 2, 1, 1, 1, 6, 6, 0, 1, 1, 0, 1, 1, 1, 1, 1, 1, 0, 1, 0, 0, 0, 0, 0, 0, 0, 1, 0, 0, 0, 1, 0, 0, 6, 1, 0, 1, 1, 1, 0, 0, 0, 0, 1, 2, 0, 1, 1, 1, 1, 1, 1, 2, 1, 1, 1, 1, 2, 1, 1, 1, 1, 1, 1, 1, 0, 0, 0, 1, 1, 5, 5, 1, 2, 6, 1, 6, 0, 1, 6, 1, 6, 1, 0, 0, 2, 1, 1, 1, 1, 1, 2, 2, 1, 1, 1, 6, 0, 1, 1, 2, 2, 1, 1, 1, 1, 1, 1, 2, 1, 1, 2, 5, 1, 1, 5, 1, 0, 0, 0, 0, 6, 6, 1, 1, 1, 1, 1, 1, 1, 0, 1, 2, 1, 0, 1, 2, 1, 0, 0, 1, 0, 0, 0, 0, 0, 1, 0, 1, 0, 0, 1, 1, 0, 1, 2, 0, 0, 0, 1, 1, 0, 1, 2, 1, 1, 0, 1, 1, 1, 1, 0, 1, 1, 2, 0, 0, 1, 1, 0, 0, 1, 0, 0, 5, 1, 2, 1, 0, 0, 0, 1, 5, 1, 5, 1, 2, 1, 1, 2, 0, 1, 0, 1, 1, 0, 0, 1, 1, 2, 2, 1, 1, 2, 1, 1, 2, 1, 1, 2, 1, 1, 2, 1, 1, 0, 1, 0, 1, 1, 1, 2]
def mcL : List Nat := [11, 10, 0, 1, 9, 5, 3, 13, 13, 8, 17, 11, 11, 10, 11, 11, 10, 10, 10, 10, 13, 13, 14, 10, 10, 2, 10, 10, 10, 10, 10, 10, 10, 10, 10, 13, 13, 14, 14, 16, 16, 14, 10, 17, 4, 10, 9, 9, 5, 9, 1, 1, 2, 5, 9, 3, 5, 5, 1, 1, 1, 8, 8, 11, 10, 0, 0, 9, 0, 1, 0, 0, 0, 11, 9, 3, 9, 1, 9, 3, 5, 5, 3, 4, 4, 4, 3, 11, 11, 11, 5, 11, 8, 8, 8, 11, 11, 8, 11, 11, 11, 5, 5, 5, 5, 5, 11, 11, 1, 11, 11, 10, 10, 10, 7, 11, 7, 11, 9, 9, 9, 7, 7, 7, 11, 11, 7, 15, 9, 7, 7, 11, 11, 10, 6, 11, 9, 9, 6, 2, 11, 11, 11, 11, 9, 5, 11, 9, 9, 11, 11, 9, 11, 11, 9, 5, 3, 8, 7, 6, 11, 11, 11, 5, 9, 8, 9, 12, 12, 12, 12, 12, 12, 12, 12, 12, 12, 12, 12, 12, 12, 12, 12, 12, 12, 12, 12, 12, 12, 12, 12, 12, 12, 12, 12, 12, 12, 12, 12, 12, 12, 12, 12, 12, 12, 12, 12, 12, 12, 12, 12, 12, 12, 12, 12, 12, 12, 12, 12, 12, 12, 12, 12, 12, 12, 12, 12, 12, 12, 12, 12, 12, 12, 12, 12, 12, 12, 12, 12, 12, 12, 12, 12, 12, 12, 12, 12, 12, 12, 12, 12, 12, 12, 12, 12, 12, 12, 12, 12, 12, 12, 12, 12, 12, 12, 12, 12, 12, 18]
def naL : List Nat := [1, 1, 1, 1, 1, 1, 1, 1, 1, 1, 2, 2, 3, 2, 4, 1, 1, 2, 2, 1, 2, 1, 2, 5, 2, 5, 2, 1, 3, 3, 2, 1, 2, 2, 1, 2, 3, 4, 1, 2, 2, 4, 1, 2, 2, 1, 5, 2, 2, 4, 4, 3, 1, 1, 5, 2, 6, 3, 4, 4, 4, 4, 2, 1, 2, 1, 3, 2, 3, 2, 2, 2, 3, 1, 4, 4, 2, 1, 2, 3, 3, 2, 3, 2, 2, 3, 2, 3, 4, 3, 3, 3, 4, 2, 3, 2, 3, 3, 2, 3, 3, 2, 2, 2, 2, 2, 3, 2, 1, 2, 1, 1, 1, 0, 5, 2, 1, 5, 3, 4, 3, 3, 2, 3, 2, 4, 1, 1, 2, 2, 1, 4, 2, 1, 4, 3, 3, 3, 3, 2, 3, 3, 1, 3, 4, 4, 3, 4, 4, 3, 5, 5, 2, 1, 2, 2, 2, 2, 1, 1, 1, 2, 2, 1, 1, 1, 1, 1, 2, 3, 1, 1, 3, 4, 2, 2, 2, 1, 3, 1, 1, 1, 1, 2, 2, 2, 1, 1, 1, 3, 3, 3, 1, 2, 4, 2, 2, 3, 3, 4, 3, 3, 2, 2, 3, 2, 4, 1, 3, 2, 2, 1, 2, 5, 1, 1, 1, 2, 1, 2, 2, 3, 3, 2, 3, 2, 2, 2, 3, 2, 5, 2, 2, 1, 1, 1, 2, 3, 2, 2, 2, 5, 7, 2, 2, 4, 3, 3, 4, 2, 1, 2, 3, 3, 3, 3, 1, 1, 3, 3, 3, 1, 2, 3, 3, 1, 2, 2, 1]
def stL : List Bool := [false, false, false, false, false, false, false, false, false, false, true, false, true, false, false, true, false, false, false, false, false, false, true, false, false, false, false, false, false, false, false, true, false, false, false, false, false, true, true, true, true, true, true, true, false, false, false, false, false, false, false, false, false, false, false, false, false, false, false, false, false, false, false, false, false, false, false, false, false, false, false, false, false, false, false, false, false, false, false, false, false, false, false, false, true, true, false, false, false, false, false, false, false, false, false, false, false, false, false, false, false, false, false, false, false, false, false, false, false, false, true, false, false, true, false, false, false, false, false, false, false, false, false, false, false, false, false, true, false, false, false, false, false, false, false, false, false, false, false, false, false, false, false, false, false, false, false, false, false, false, false, false, false, false, false, false, false, false, false, false, false, false, false, false, false, false, false, false, false, true, false, false, false, false, false, false, false, false, false, false, false, false, false, false, false, false, false, false, false, true, false, false, true, false, false, false, false, true, false, false, false, false, false, false, false, false, false, false, false, false, false, false, false, false, false, false, false, false, false, false, false, false, false, false, false, false, false, false, false, false, false, false, false, true, false, false, false, false, true, false, false, false, false, false, false, false, false, false, false, false, true, true, false, false, false, false, true, false, false, false, false, false, false, false, false, false, false, false, true]
abbrev m_S_init : Nat := 0
abbrev m_Tape_init : Nat := 1
abbrev m_Batch_init : Nat := 2
abbrev m_Bins_init : Nat := 3
abbrev m_Store_init : Nat := 4
abbrev m_Log_init : Nat := 5
abbrev m_Formats_init : Nat := 6
abbrev m_String_length : Nat := 7
abbrev m_String_coder : Nat := 8
abbrev m_Snapshots_init : Nat := 9
abbrev m_Arrays_fill : Nat := 10
abbrev m_S_feed : Nat := 11
abbrev m_S_within : Nat := 12
abbrev m_Tape_add : Nat := 13
abbrev m_S_ask : Nat := 14
abbrev m_S_isStream : Nat := 15
abbrev m_Tape_begin : Nat := 16
abbrev m_Tape_command : Nat := 17
abbrev m_Tape_word : Nat := 18
abbrev m_Tape_wordEnd : Nat := 19
abbrev m_String_charAt : Nat := 20
abbrev m_String_isLatin1 : Nat := 21
abbrev m_StringLatin1_charAt : Nat := 22
abbrev m_Tape_isSame : Nat := 23
abbrev m_Tape_fail : Nat := 24
abbrev m_Command_init : Nat := 25
abbrev m_Tape_take : Nat := 26
abbrev m_Tape_peek : Nat := 27
abbrev m_Tape_formula : Nat := 28
abbrev m_Tape_part : Nat := 29
abbrev m_Tape_operand : Nat := 30
abbrev m_Tape_isFigure : Nat := 31
abbrev m_Tape_number : Nat := 32
abbrev m_Tape_emit : Nat := 33
abbrev m_Tape_letter : Nat := 34
abbrev m_String_indexOf0 : Nat := 35
abbrev m_String_indexOf1 : Nat := 36
abbrev m_StringLatin1_indexOf : Nat := 37
abbrev m_StringLatin1_canEncode : Nat := 38
abbrev m_Math_max : Nat := 39
abbrev m_Math_min : Nat := 40
abbrev m_StringLatin1_indexOfChar : Nat := 41
abbrev m_Tape_signsOf : Nat := 42
abbrev m_Arrays_copyOf : Nat := 43
abbrev m_Formula_init : Nat := 44
abbrev m_Tape_end : Nat := 45
abbrev m_Store_asked : Nat := 46
abbrev m_Store_tell : Nat := 47
abbrev m_Log_versionOf : Nat := 48
abbrev m_Store_carry : Nat := 49
abbrev m_Bins_refusal : Nat := 50
abbrev m_Bins_get : Nat := 51
abbrev m_Command_events : Nat := 52
abbrev m_Log_room : Nat := 53
abbrev m_Store_come : Nat := 54
abbrev m_Formats_formatOf : Nat := 55
abbrev m_Log_add : Nat := 56
abbrev m_Log_put : Nat := 57
abbrev m_Bins_change : Nat := 58
abbrev m_Bins_put : Nat := 59
abbrev m_Bins_more : Nat := 60
abbrev m_Snapshots_add : Nat := 61
abbrev m_Snapshots_dropOldest : Nat := 62
abbrev m_S_batch : Nat := 63
abbrev m_Tape_readLines : Nat := 64
abbrev m_Batch_clear : Nat := 65
abbrev m_Batch_add : Nat := 66
abbrev m_Store_carryAll : Nat := 67
abbrev m_Batch_think : Nat := 68
abbrev m_Bins_copyFrom : Nat := 69
abbrev m_Batch_commandOf : Nat := 70
abbrev m_Batch_streamOf : Nat := 71
abbrev m_Batch_carry : Nat := 72
abbrev m_S_upcast : Nat := 73
abbrev m_Store_addUpcaster : Nat := 74
abbrev m_Formats_add : Nat := 75
abbrev m_Store_foldPast : Nat := 76
abbrev m_Bins_clear : Nat := 77
abbrev m_Store_changePast : Nat := 78
abbrev m_Formats_read : Nat := 79
abbrev m_Log_get : Nat := 80
abbrev m_Log_has : Nat := 81
abbrev m_Formats_change : Nat := 82
abbrev m_Formula_give : Nat := 83
abbrev m_Formula_letterOf : Nat := 84
abbrev m_Formula_join : Nat := 85
abbrev m_Formats_letter : Nat := 86
abbrev m_S_state : Nat := 87
abbrev m_S_at : Nat := 88
abbrev m_S_isVersion : Nat := 89
abbrev m_Log_positionOf : Nat := 90
abbrev m_S_steps : Nat := 91
abbrev m_Snapshots_latestGood : Nat := 92
abbrev m_Snapshots_sizeOf : Nat := 93
abbrev m_Snapshots_isGood : Nat := 94
abbrev m_S_snap : Nat := 95
abbrev m_S_snaps : Nat := 96
abbrev m_Snapshots_goodOf : Nat := 97
abbrev m_S_every : Nat := 98
abbrev m_S_event : Nat := 99
abbrev m_S_text : Nat := 100
abbrev m_Log_write : Nat := 101
abbrev m_Log_writeNumber : Nat := 102
abbrev m_Log_writeSign : Nat := 103
abbrev m_Log_writeKind : Nat := 104
abbrev m_Log_written : Nat := 105
abbrev m_S_find : Nat := 106
abbrev m_S_worth : Nat := 107
abbrev m_Bins_worthOfOpen : Nat := 108
abbrev m_S_project : Nat := 109
abbrev m_S_isSlot : Nat := 110
abbrev m_Tape_projection : Nat := 111
abbrev m_Tape_kinds : Nat := 112
abbrev m_Tape_always : Nat := 113
abbrev m_Projection_init : Nat := 114
abbrev m_S_rebuild : Nat := 115
abbrev m_Projection_afresh : Nat := 116
abbrev m_S_deliver : Nat := 117
abbrev m_Store_projectionOf : Nat := 118
abbrev m_Store_handOver : Nat := 119
abbrev m_Store_handle : Nat := 120
abbrev m_Projection_handle : Nat := 121
abbrev m_Projection_has : Nat := 122
abbrev m_Projection_folded : Nat := 123
abbrev m_S_swap : Nat := 124
abbrev m_S_look : Nat := 125
abbrev m_Projection_size : Nat := 126
abbrev m_Integer_bitCount : Nat := 127
abbrev m_Store_isTrue : Nat := 128
abbrev m_Projection_sameRows : Nat := 129
abbrev m_Projection_sum : Nat := 130
abbrev m_S_row : Nat := 131
abbrev m_S_policy : Nat := 132
abbrev m_Tape_policyText : Nat := 133
abbrev m_Policy_init : Nat := 134
abbrev m_S_run : Nat := 135
abbrev m_Store_runPolicy : Nat := 136
abbrev m_Store_hasHandled : Nat := 137
abbrev m_Policy_isFor : Nat := 138
abbrev m_Command_amountBy : Nat := 139
abbrev m_S_policyOf : Nat := 140
abbrev m_S_see : Nat := 141
abbrev m_S_harmless : Nat := 142
abbrev m_S_attempt : Nat := 143
abbrev m_Store_tried : Nat := 144
abbrev m_Log_onlyThese : Nat := 145
abbrev m_S_watch : Nat := 146
abbrev m_Store_watched : Nat := 147
abbrev m_Store_isSeen : Nat := 148
abbrev m_S_foresee : Nat := 149
abbrev m_S_tally : Nat := 150
abbrev m_Store_tallied : Nat := 151
abbrev m_S_digest : Nat := 152
abbrev m_S_image : Nat := 153
abbrev m_Store_copyFrom : Nat := 154
abbrev m_Log_copyFrom : Nat := 155
abbrev m_Formats_copyFrom : Nat := 156
abbrev m_Snapshots_copyFrom : Nat := 157
abbrev m_Projection_copy : Nat := 158
abbrev m_Policy_copy : Nat := 159
abbrev m_S_back : Nat := 160
abbrev m_S_led : Nat := 161
abbrev m_S_count : Nat := 162
abbrev m_Log_streamsUsed : Nat := 163
abbrev m_Store_numbersUsed : Nat := 164
abbrev m_Snapshots_total : Nat := 165
abbrev m_Store_liveOnes : Nat := 166
abbrev m_M_init : Nat := 167
abbrev m_M_feed : Nat := 168
abbrev m_M_in : Nat := 169
abbrev m_M_upcast : Nat := 170
abbrev m_M_beginReading : Nat := 171
abbrev m_M_readWord : Nat := 172
abbrev m_M_isWord : Nat := 173
abbrev m_M_placeOfWord : Nat := 174
abbrev m_M_wrong : Nat := 175
abbrev m_M_expect : Nat := 176
abbrev m_M_here : Nat := 177
abbrev m_M_readFormula : Nat := 178
abbrev m_M_readCompared : Nat := 179
abbrev m_M_readSum : Nat := 180
abbrev m_M_readProduct : Nat := 181
abbrev m_M_readOperand : Nat := 182
abbrev m_M_readNumber : Nat := 183
abbrev m_M_put : Nat := 184
abbrev m_M_variable : Nat := 185
abbrev m_M_opens : Nat := 186
abbrev m_M_readBracketed : Nat := 187
abbrev m_M_endReading : Nat := 188
abbrev m_M_castSlot : Nat := 189
abbrev m_M_copyFormula : Nat := 190
abbrev m_M_state : Nat := 191
abbrev m_M_isStream : Nat := 192
abbrev m_M_foldNow : Nat := 193
abbrev m_M_fold : Nat := 194
abbrev m_M_read : Nat := 195
abbrev m_M_worked : Nat := 196
abbrev m_M_joined : Nat := 197
abbrev m_M_change : Nat := 198
abbrev m_M_at : Nat := 199
abbrev m_M_isVersion : Nat := 200
abbrev m_M_steps : Nat := 201
abbrev m_M_snap : Nat := 202
abbrev m_M_takeSnap : Nat := 203
abbrev m_M_snaps : Nat := 204
abbrev m_M_every : Nat := 205
abbrev m_M_ask : Nat := 206
abbrev m_M_readAlone : Nat := 207
abbrev m_M_readCommand : Nat := 208
abbrev m_M_asked : Nat := 209
abbrev m_M_refusal : Nat := 210
abbrev m_M_hasRoom : Nat := 211
abbrev m_M_happen : Nat := 212
abbrev m_M_addEvent : Nat := 213
abbrev m_M_batch : Nat := 214
abbrev m_M_readBatch : Nat := 215
abbrev m_M_readLine : Nat := 216
abbrev m_M_keepSnaps : Nat := 217
abbrev m_M_through : Nat := 218
abbrev m_M_takeLine : Nat := 219
abbrev m_M_cutTo : Nat := 220
abbrev m_M_foresee : Nat := 221
abbrev m_M_event : Nat := 222
abbrev m_M_isPosition : Nat := 223
abbrev m_M_text : Nat := 224
abbrev m_M_writeEvent : Nat := 225
abbrev m_M_writeNumber : Nat := 226
abbrev m_M_write : Nat := 227
abbrev m_M_find : Nat := 228
abbrev m_M_worth : Nat := 229
abbrev m_M_tally : Nat := 230
abbrev m_M_digest : Nat := 231
abbrev m_M_project : Nat := 232
abbrev m_M_isProjection : Nat := 233
abbrev m_M_readProjection : Nat := 234
abbrev m_M_readKinds : Nat := 235
abbrev m_M_isNext : Nat := 236
abbrev m_M_layProjection : Nat := 237
abbrev m_M_projectionSlot : Nat := 238
abbrev m_M_begin : Nat := 239
abbrev m_M_rebuild : Nat := 240
abbrev m_M_deliver : Nat := 241
abbrev m_M_handle : Nat := 242
abbrev m_M_giveRead : Nat := 243
abbrev m_M_swap : Nat := 244
abbrev m_M_look : Nat := 245
abbrev m_M_isOne : Nat := 246
abbrev m_M_isTrue : Nat := 247
abbrev m_M_row : Nat := 248
abbrev m_M_policy : Nat := 249
abbrev m_M_isPolicy : Nat := 250
abbrev m_M_policySlot : Nat := 251
abbrev m_M_run : Nat := 252
abbrev m_M_ranOver : Nat := 253
abbrev m_M_policyOf : Nat := 254
abbrev m_M_see : Nat := 255
abbrev m_M_isClient : Nat := 256
abbrev m_M_harmless : Nat := 257
abbrev m_M_attempt : Nat := 258
abbrev m_M_allHarmless : Nat := 259
abbrev m_M_watch : Nat := 260
abbrev m_M_image : Nat := 261
abbrev m_M_swapAll : Nat := 262
abbrev m_M_swapOne : Nat := 263
abbrev m_M_swapRow : Nat := 264
abbrev m_M_back : Nat := 265
abbrev m_M_led : Nat := 266
abbrev m_M_count : Nat := 267
abbrev m_law : Nat := 268
def fTab : List (Nat × Nat × Nat × Nat) := [(10, 9, 10, 0), (10, 15, 10, 1), (10, 20, 10, 2), (10, 61, 10, 3), (10, 28, 10, 4), (11, 199, 10, 4), (10, 31, 10, 5), (10, 24, 10, 6), (1, 9, 1, 0), (0, 9, 0, 0), (0, 17, 0, 1), (0, 24, 0, 2), (11, 294, 0, 2), (0, 28, 0, 3), (9, 181, 0, 3), (0, 36, 0, 4), (9, 178, 0, 4), (11, 288, 0, 4), (0, 39, 0, 5), (9, 195, 0, 5), (11, 291, 0, 5), (0, 42, 0, 6), (9, 184, 0, 6), (5, 9, 5, 0), (5, 15, 5, 1), (5, 18, 5, 2), (5, 51, 5, 3), (5, 27, 5, 4), (9, 200, 5, 4), (11, 176, 5, 4), (3, 9, 3, 0), (3, 17, 3, 1), (3, 21, 3, 2), (3, 32, 3, 3), (9, 229, 3, 3), (3, 41, 3, 4), (9, 167, 3, 4), (11, 135, 3, 4), (8, 9, 8, 0), (8, 15, 8, 1), (8, 18, 8, 2), (9, 12, 9, 0), (11, 95, 9, 0), (9, 21, 9, 1), (11, 104, 9, 1), (9, 25, 9, 2), (11, 124, 9, 2), (9, 31, 9, 3), (11, 131, 9, 3), (9, 38, 9, 4), (11, 127, 9, 4), (9, 42, 9, 5), (9, 48, 9, 6), (11, 192, 9, 6), (9, 52, 9, 7), (11, 196, 9, 7), (9, 57, 9, 8), (11, 238, 9, 8), (9, 61, 9, 9), (11, 252, 9, 9), (9, 70, 9, 10), (11, 255, 9, 10), (9, 73, 9, 11), (11, 307, 9, 11), (9, 84, 9, 12), (9, 113, 9, 13), (11, 156, 9, 13), (9, 117, 9, 14), (11, 261, 9, 14), (11, 14, 11, 0), (11, 21, 11, 1), (11, 28, 11, 2), (11, 32, 11, 3), (11, 35, 11, 4), (2, 9, 2, 0), (9, 146, 2, 0), (0, 68, 2, 0), (1, 38, 2, 0), (2, 15, 2, 1), (9, 128, 2, 1), (0, 54, 2, 1), (2, 18, 2, 2), (9, 149, 2, 2), (0, 75, 2, 2), (1, 44, 2, 2), (2, 21, 2, 3), (4, 7, 4, 0), (4, 13, 4, 1), (7, 9, 7, 0), (7, 15, 7, 1), (7, 18, 7, 2), (7, 21, 7, 3), (7, 25, 7, 4), (11, 227, 7, 4), (7, 42, 7, 5), (7, 45, 7, 6), (9, 222, 7, 6), (11, 213, 7, 6), (6, 7, 6, 0), (6, 13, 6, 1), (6, 17, 6, 2), (9, 251, 6, 2), (6, 24, 6, 3), (9, 242, 6, 3), (11, 235, 6, 3), (6, 27, 6, 4), (9, 259, 6, 4), (11, 246, 6, 4), (6, 30, 6, 5), (9, 262, 6, 5), (11, 249, 6, 5), (12, 7, 12, 1), (12, 175, 12, 2), (12, 178, 12, 3), (12, 181, 12, 4), (12, 192, 12, 5), (12, 13, 12, 6), (12, 17, 12, 7), (12, 20, 12, 8), (12, 202, 12, 9), (12, 209, 12, 10), (12, 205, 12, 11), (12, 23, 12, 12), (12, 26, 12, 13), (12, 246, 12, 14), (12, 29, 12, 15), (12, 32, 12, 16), (12, 35, 12, 17), (12, 38, 12, 18), (12, 41, 12, 19), (12, 44, 12, 20), (12, 47, 12, 21), (12, 282, 12, 22), (12, 312, 12, 23), (12, 50, 12, 24), (12, 249, 12, 25), (12, 252, 12, 26), (12, 53, 12, 27), (12, 56, 12, 28), (12, 59, 12, 29), (12, 62, 12, 30), (12, 324, 12, 31), (12, 318, 12, 32), (12, 321, 12, 33), (12, 315, 12, 34), (12, 65, 12, 35), (12, 68, 12, 36), (12, 351, 12, 37), (12, 71, 12, 38), (12, 74, 12, 39), (12, 77, 12, 40), (12, 80, 12, 41), (12, 357, 12, 42), (12, 83, 12, 43), (12, 86, 12, 44), (12, 89, 12, 45), (12, 92, 12, 46), (12, 385, 12, 47), (12, 95, 12, 48), (12, 98, 12, 49), (12, 101, 12, 50), (12, 104, 12, 51), (12, 107, 12, 52), (12, 110, 12, 53), (12, 113, 12, 54), (12, 116, 12, 55), (12, 406, 12, 56), (12, 412, 12, 57), (12, 415, 12, 58), (12, 418, 12, 59), (12, 119, 12, 60), (12, 122, 12, 61), (12, 125, 12, 62), (12, 128, 12, 63), (12, 131, 12, 64), (12, 134, 12, 65), (12, 137, 12, 66), (12, 140, 12, 67), (12, 143, 12, 68), (12, 146, 12, 69), (12, 149, 12, 70), (12, 152, 12, 71), (12, 155, 12, 72), (12, 158, 12, 73), (12, 161, 12, 74), (12, 464, 12, 75), (12, 481, 12, 76), (12, 164, 12, 77), (12, 470, 12, 78), (13, 9, 13, 0), (13, 15, 13, 1)]
def mTab : List (Nat × Nat × Nat) := [(18, 9, 0), (11, 13, 1), (11, 20, 2), (0, 23, 3), (11, 27, 4), (9, 11, 5), (9, 20, 3), (9, 30, 6), (3, 26, 7), (13, 335, 8), (9, 37, 9), (9, 64, 10), (9, 78, 7), (18, 13, 11), (11, 39, 12), (11, 43, 13), (18, 18, 14), (11, 47, 15), (11, 51, 16), (11, 54, 17), (10, 110, 18), (10, 42, 19), (10, 45, 7), (10, 49, 20), (13, 492, 21), (13, 495, 22), (10, 53, 23), (10, 34, 24), (10, 116, 25), (10, 105, 26), (10, 38, 27), (10, 119, 28), (10, 64, 29), (10, 79, 30), (10, 57, 31), (10, 99, 32), (10, 90, 33), (10, 102, 34), (10, 86, 35), (13, 633, 36), (13, 505, 7), (13, 637, 37), (14, 88, 38), (14, 92, 39), (14, 38, 40), (14, 95, 41), (10, 82, 42), (10, 70, 43), (17, 304, 40), (10, 76, 44), (11, 58, 45), (11, 62, 46), (9, 120, 47), (9, 124, 48), (9, 133, 49), (9, 137, 50), (1, 27, 51), (9, 140, 52), (9, 143, 53), (9, 152, 54), (9, 156, 55), (9, 159, 56), (5, 39, 53), (5, 43, 57), (9, 163, 58), (1, 31, 59), (1, 35, 60), (9, 170, 61), (8, 27, 62), (18, 23, 63), (11, 66, 64), (10, 125, 65), (10, 130, 17), (10, 134, 66), (11, 70, 67), (9, 172, 68), (0, 32, 69), (0, 46, 70), (0, 50, 71), (0, 57, 50), (0, 61, 52), (0, 64, 72), (0, 71, 58), (9, 188, 70), (9, 192, 71), (18, 28, 73), (11, 76, 18), (11, 80, 26), (11, 86, 28), (11, 90, 74), (9, 197, 75), (3, 45, 55), (9, 202, 76), (9, 205, 77), (1, 15, 10), (9, 208, 78), (9, 211, 79), (3, 49, 80), (5, 35, 81), (5, 31, 12), (3, 55, 82), (3, 59, 83), (4, 16, 84), (4, 20, 85), (9, 215, 80), (9, 219, 86), (9, 91, 69), (18, 32, 87), (11, 99, 48), (11, 108, 51), (18, 37, 88), (11, 114, 89), (11, 118, 90), (5, 47, 80), (11, 121, 76), (18, 41, 91), (11, 141, 92), (8, 31, 93), (8, 35, 94), (8, 39, 39), (18, 45, 95), (11, 147, 61), (18, 49, 96), (11, 150, 93), (11, 153, 97), (18, 53, 98), (18, 57, 99), (11, 159, 81), (11, 162, 80), (11, 163, 79), (11, 167, 86), (18, 61, 100), (11, 170, 101), (5, 54, 102), (5, 58, 103), (5, 61, 104), (5, 66, 7), (5, 70, 20), (11, 173, 105), (18, 65, 106), (18, 69, 107), (11, 181, 108), (18, 74, 109), (11, 185, 110), (11, 188, 111), (10, 146, 112), (10, 153, 113), (10, 161, 114), (18, 78, 115), (11, 200, 116), (7, 29, 114), (18, 82, 117), (11, 205, 118), (11, 209, 119), (9, 225, 120), (9, 232, 121), (7, 48, 83), (7, 54, 122), (7, 58, 123), (7, 62, 39), (7, 67, 40), (18, 87, 124), (18, 91, 125), (11, 216, 126), (7, 70, 127), (11, 219, 128), (9, 235, 116), (9, 238, 129), (11, 223, 130), (18, 95, 131), (11, 226, 122), (18, 99, 132), (11, 231, 133), (10, 170, 134), (18, 103, 135), (11, 242, 136), (9, 243, 137), (9, 247, 138), (6, 33, 83), (9, 255, 139), (2, 25, 83), (2, 31, 40), (2, 37, 39), (18, 107, 140), (18, 111, 141), (18, 115, 142), (11, 258, 112), (11, 264, 127), (18, 119, 143), (11, 269, 144), (9, 264, 145), (18, 123, 146), (11, 275, 147), (9, 268, 148), (9, 277, 51), (9, 278, 83), (9, 272, 39), (18, 127, 149), (11, 281, 53), (11, 284, 68), (18, 132, 150), (11, 295, 151), (18, 136, 152), (18, 140, 153), (11, 303, 154), (9, 87, 155), (9, 94, 156), (9, 97, 157), (9, 106, 158), (7, 32, 116), (9, 110, 159), (6, 21, 134), (18, 144, 160), (18, 148, 161), (18, 152, 162), (11, 310, 163), (11, 313, 164), (11, 316, 165), (11, 319, 166), (18, 12, 167), (18, 17, 168), (12, 171, 169), (18, 31, 170), (12, 264, 171), (12, 267, 172), (12, 195, 173), (12, 188, 174), (12, 184, 175), (12, 233, 176), (12, 198, 177), (12, 271, 178), (12, 230, 179), (12, 239, 180), (12, 236, 181), (12, 224, 182), (12, 212, 183), (12, 215, 184), (12, 218, 185), (12, 221, 186), (12, 227, 187), (12, 275, 188), (12, 255, 189), (12, 278, 190), (18, 36, 191), (12, 292, 192), (12, 297, 193), (12, 288, 194), (12, 261, 195), (12, 258, 196), (12, 242, 197), (12, 285, 198), (18, 40, 199), (12, 300, 200), (18, 44, 201), (12, 304, 39), (18, 48, 202), (12, 309, 203), (18, 52, 204), (18, 56, 205), (18, 22, 206), (12, 345, 207), (12, 341, 208), (12, 348, 209), (12, 331, 210), (12, 334, 211), (12, 338, 212), (12, 327, 213), (18, 27, 214), (12, 363, 215), (12, 354, 216), (12, 366, 217), (12, 370, 218), (12, 360, 219), (12, 373, 220), (18, 131, 221), (18, 60, 222), (12, 382, 223), (18, 64, 224), (12, 396, 225), (12, 393, 226), (12, 388, 227), (18, 68, 228), (18, 73, 229), (18, 135, 230), (18, 139, 231), (18, 77, 232), (12, 427, 233), (12, 430, 234), (12, 409, 235), (12, 403, 236), (12, 433, 237), (12, 421, 238), (12, 424, 239), (18, 81, 240), (18, 86, 241), (12, 442, 242), (12, 436, 243), (12, 439, 40), (18, 90, 244), (18, 94, 245), (12, 446, 246), (12, 449, 247), (18, 98, 248), (18, 102, 249), (12, 452, 250), (12, 455, 251), (18, 106, 252), (12, 458, 253), (18, 110, 254), (18, 114, 255), (12, 461, 256), (18, 118, 257), (18, 122, 258), (12, 467, 259), (18, 126, 260), (18, 143, 261), (12, 484, 262), (12, 473, 263), (12, 477, 264), (18, 147, 265), (18, 151, 266), (18, 155, 267)]
def nTab : List (Nat × Nat × Nat) := [(18, 7, 11), (11, 11, 10), (11, 18, 0), (0, 15, 2), (0, 21, 1), (11, 25, 9), (9, 9, 5), (9, 18, 1), (9, 28, 3), (3, 15, 4), (9, 35, 8), (9, 46, 7), (9, 55, 6), (10, 114, 2), (10, 68, 4), (10, 159, 7), (7, 10, 7), (10, 168, 6), (6, 8, 6), (18, 10, 12)]
def kTab : List (Nat × Nat × Int32) := [(11, 94, -2000000000), (15, 265, 1431655765), (15, 266, 858993459), (15, 267, 252645135), (9, 283, -2000000000), (12, 16, 39200), (12, 296, -2000000000)]
def klTab : List (Nat × Nat × Nat) := [(5, 74, 3), (5, 76, 2), (11, 179, 6), (11, 279, 7), (11, 299, 5), (11, 301, 4), (12, 378, 6), (12, 380, 7), (12, 391, 2), (12, 399, 5), (12, 401, 4)]
def sTab : List (Nat × Nat × Nat) := [(10, 18, 1), (3, 24, 3), (9, 76, 5), (10, 108, 7), (10, 93, 9), (10, 95, 11), (10, 97, 13), (10, 123, 15), (11, 74, 17), (11, 84, 19), (5, 64, 21), (10, 142, 23), (10, 144, 25), (10, 138, 27), (10, 140, 29), (10, 149, 31), (10, 151, 33), (10, 157, 35), (10, 162, 37), (10, 164, 39), (10, 166, 41), (11, 273, 43)]
def oiTab : List (Nat × Nat) := [(11, 5), (10, 3), (0, 3), (1, 3), (9, 3), (5, 3), (3, 3), (8, 3), (2, 3), (4, 1), (7, 3), (6, 1), (12, 1)]
def acTab : List (Nat × Nat) := [(17, 150), (1, 21), (5, 21), (3, 35), (8, 21), (9, 100), (7, 36)]
def ciTab : List (Nat × Nat) := [(14, 9)]
def cnTab : List (Nat × Nat) := [(17, 316)]
def nfL : List Nat := [7, 1, 4, 5, 2, 5, 6, 7, 3, 15, 7, 5, 79, 2]
def ftL : List (List Nat) := [[1, 1, 1, 0, 0, 0, 2], [1], [0, 0, 0, 1], [1, 1, 1, 1, 0], [1, 1], [1, 1, 1, 0, 0], [0, 1, 1, 0, 0, 0], [0, 0, 0, 1, 1, 0, 0], [1, 1, 1], [1, 1, 1, 1, 1, 1, 1, 1, 1, 1, 1, 1, 1, 0, 0], [1, 1, 1, 0, 0, 0, 0], [1, 1, 1, 1, 2], [0, 1, 0, 0, 0, 0, 1, 1, 1, 0, 0, 2, 1, 1, 0, 1, 1, 1, 1, 1, 1, 1, 0, 0, 1, 0, 0, 1, 1, 1, 1, 0, 0, 0, 2, 1, 1, 0, 1, 1, 1, 1, 2, 1, 1, 1, 1, 0, 1, 1, 1, 1, 1, 1, 1, 1, 0, 0, 0, 0, 1, 1, 1, 1, 1, 1, 1, 1, 1, 1, 1, 1, 1, 1, 1, 0, 2, 1, 0], [1, 0]]
def fnL : List (List Bool) := [[true, true, true, false, false, false, false], [true], [true, true, true, true], [true, true, true, true, false], [true, true], [true, true, true, false, false], [true, true, true, false, false, false], [true, true, true, true, true, false, false], [true, true, true], [true, true, true, true, true, true, true, true, true, true, true, true, true, false, false], [true, true, false, false, false, false, false], [true, true, true, true, false], [false, true, false, false, false, false, true, true, true, false, false, false, true, true, false, true, true, true, true, true, true, true, false, false, true, false, false, true, true, true, true, false, false, false, false, true, true, false, true, true, true, true, false, true, true, true, true, false, true, true, true, true, true, true, true, true, false, false, false, false, true, true, true, true, true, true, true, true, true, true, true, true, true, true, true, false, false, true, false], [true, true]]
abbrev k_Batch : Nat := 0
abbrev f_Batch_streams : Nat := 0
abbrev f_Batch_commands : Nat := 1
abbrev f_Batch_bins : Nat := 2
abbrev f_Batch_size : Nat := 3
abbrev f_Batch_through : Nat := 4
abbrev f_Batch_events : Nat := 5
abbrev f_Batch_refused : Nat := 6
abbrev k_Bins : Nat := 1
abbrev f_Bins_cells : Nat := 0
abbrev k_Command : Nat := 2
abbrev f_Command_kind : Nat := 0
abbrev f_Command_amount : Nat := 1
abbrev f_Command_target : Nat := 2
abbrev f_Command_formula : Nat := 3
abbrev k_Formats : Nat := 3
abbrev f_Formats_sizes : Nat := 0
abbrev f_Formats_toA : Nat := 1
abbrev f_Formats_toB : Nat := 2
abbrev f_Formats_letters : Nat := 3
abbrev f_Formats_era : Nat := 4
abbrev k_Formula : Nat := 4
abbrev f_Formula_code : Nat := 0
abbrev f_Formula_stack : Nat := 1
abbrev k_Log : Nat := 5
abbrev f_Log_cells : Nat := 0
abbrev f_Log_versions : Nat := 1
abbrev f_Log_line : Nat := 2
abbrev f_Log_lineLength : Nat := 3
abbrev f_Log_length : Nat := 4
abbrev k_Policy : Nat := 6
abbrev f_Policy_kinds : Nat := 0
abbrev f_Policy_condition : Nat := 1
abbrev f_Policy_command : Nat := 2
abbrev f_Policy_checkpoint : Nat := 3
abbrev f_Policy_done : Nat := 4
abbrev f_Policy_refused : Nat := 5
abbrev k_Projection : Nat := 7
abbrev f_Projection_fold : Nat := 0
abbrev f_Projection_kinds : Nat := 1
abbrev f_Projection_key : Nat := 2
abbrev f_Projection_condition : Nat := 3
abbrev f_Projection_rows : Nat := 4
abbrev f_Projection_present : Nat := 5
abbrev f_Projection_checkpoint : Nat := 6
abbrev k_Snapshots : Nat := 8
abbrev f_Snapshots_versions : Nat := 0
abbrev f_Snapshots_eras : Nat := 1
abbrev f_Snapshots_sizes : Nat := 2
abbrev k_Store : Nat := 9
abbrev f_Store_log : Nat := 0
abbrev f_Store_bins : Nat := 1
abbrev f_Store_past : Nat := 2
abbrev f_Store_formats : Nat := 3
abbrev f_Store_snapshots : Nat := 4
abbrev f_Store_answers : Nat := 5
abbrev f_Store_live : Nat := 6
abbrev f_Store_beside : Nat := 7
abbrev f_Store_policies : Nat := 8
abbrev f_Store_seenStream : Nat := 9
abbrev f_Store_seenVersion : Nat := 10
abbrev f_Store_led : Nat := 11
abbrev f_Store_stateLetters : Nat := 12
abbrev f_Store_every : Nat := 13
abbrev f_Store_harmless : Nat := 14
abbrev k_Tape : Nat := 10
abbrev f_Tape_bytes : Nat := 0
abbrev f_Tape_code : Nat := 1
abbrev f_Tape_letters : Nat := 2
abbrev f_Tape_codeLength : Nat := 3
abbrev f_Tape_length : Nat := 4
abbrev f_Tape_place : Nat := 5
abbrev f_Tape_fault : Nat := 6
abbrev k_S : Nat := 11
abbrev f_S_tape : Nat := 0
abbrev f_S_lines : Nat := 1
abbrev f_S_store : Nat := 2
abbrev f_S_kept : Nat := 3
abbrev f_S_imaged : Nat := 4
abbrev k_M : Nat := 12
abbrev f_M_code : Nat := 0
abbrev f_M_tape : Nat := 1
abbrev f_M_taped : Nat := 2
abbrev f_M_at : Nat := 3
abbrev f_M_fault : Nat := 4
abbrev f_M_wordAt : Nat := 5
abbrev f_M_words : Nat := 6
abbrev f_M_formula : Nat := 7
abbrev f_M_formulaMany : Nat := 8
abbrev f_M_slot : Nat := 9
abbrev f_M_open : Nat := 10
abbrev f_M_watches : Nat := 11
abbrev f_M_pile : Nat := 12
abbrev f_M_given : Nat := 13
abbrev f_M_events : Nat := 14
abbrev f_M_streamOf : Nat := 15
abbrev f_M_versionOf : Nat := 16
abbrev f_M_kindOf : Nat := 17
abbrev f_M_formatOf : Nat := 18
abbrev f_M_aOf : Nat := 19
abbrev f_M_bOf : Nat := 20
abbrev f_M_casts : Nat := 21
abbrev f_M_era : Nat := 22
abbrev f_M_every : Nat := 23
abbrev f_M_version : Nat := 24
abbrev f_M_readA : Nat := 25
abbrev f_M_readB : Nat := 26
abbrev f_M_state : Nat := 27
abbrev f_M_snapMany : Nat := 28
abbrev f_M_snapVersion : Nat := 29
abbrev f_M_snapEra : Nat := 30
abbrev f_M_command : Nat := 31
abbrev f_M_amount : Nat := 32
abbrev f_M_target : Nat := 33
abbrev f_M_byFormula : Nat := 34
abbrev f_M_led : Nat := 35
abbrev f_M_answered : Nat := 36
abbrev f_M_lines : Nat := 37
abbrev f_M_lineStream : Nat := 38
abbrev f_M_lineCommand : Nat := 39
abbrev f_M_lineAmount : Nat := 40
abbrev f_M_lineTarget : Nat := 41
abbrev f_M_refused : Nat := 42
abbrev f_M_wereMany : Nat := 43
abbrev f_M_wereVersion : Nat := 44
abbrev f_M_wereEra : Nat := 45
abbrev f_M_written : Nat := 46
abbrev f_M_writtenMany : Nat := 47
abbrev f_M_isThere : Nat := 48
abbrev f_M_foldOf : Nat := 49
abbrev f_M_kindsOf : Nat := 50
abbrev f_M_keyOf : Nat := 51
abbrev f_M_hasIf : Nat := 52
abbrev f_M_checkpoint : Nat := 53
abbrev f_M_hasRow : Nat := 54
abbrev f_M_row : Nat := 55
abbrev f_M_newFold : Nat := 56
abbrev f_M_newKinds : Nat := 57
abbrev f_M_newKey : Nat := 58
abbrev f_M_newIf : Nat := 59
abbrev f_M_hasTrue : Nat := 60
abbrev f_M_trueRow : Nat := 61
abbrev f_M_isTold : Nat := 62
abbrev f_M_onKinds : Nat := 63
abbrev f_M_onIf : Nat := 64
abbrev f_M_does : Nat := 65
abbrev f_M_doesBy : Nat := 66
abbrev f_M_doesAmount : Nat := 67
abbrev f_M_doesTo : Nat := 68
abbrev f_M_ranTo : Nat := 69
abbrev f_M_didMany : Nat := 70
abbrev f_M_refusedMany : Nat := 71
abbrev f_M_hasSeen : Nat := 72
abbrev f_M_seenStream : Nat := 73
abbrev f_M_seenVersion : Nat := 74
abbrev f_M_harmless : Nat := 75
abbrev f_M_hasImage : Nat := 76
abbrev f_M_image : Nat := 77
abbrev f_M_imageAt : Nat := 78
/-- which local variables are written as long ones -/
def lngT : List (Nat × Nat) := [(102, 2), (102, 4), (108, 1), (226, 2), (226, 4), (229, 2)]
