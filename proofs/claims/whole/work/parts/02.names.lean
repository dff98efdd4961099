/-! classes and their fields, cells by kinds (printed by wip/whole/gen/names.py) -/
def sl_T0 : List Cond := lw_tbl.filter goodWord
theorem sl_in1 {w : Cond} (i : Nat) (h : lw_tbl[i]? = some w) (hg : goodWord w = true) : w ∈ sl_T0 := List.mem_filter.mpr ⟨List.mem_of_getElem? h, hg⟩
theorem sl_inL {ws : List Cond} (ps : List Nat) (h : ws = ps.filterMap (fun i => lw_tbl[i]?)) (hg : ws.all goodWord = true) : ∀ w ∈ ws, w ∈ sl_T0 := by
  intro w hw
  have hg1 := List.all_eq_true.mp hg w hw
  rw [h] at hw
  obtain ⟨i, -, hi⟩ := List.mem_filterMap.mp hw
  exact sl_in1 i hi hg1
theorem sl_T0_good {w : Cond} (h : w ∈ sl_T0) : goodWord w = true := (List.mem_filter.mp h).2
theorem sl_T0_tbl {w : Cond} (h : w ∈ sl_T0) : w ∈ lw_tbl := (List.mem_filter.mp h).1
def sl_R0 : String := "SpanLayers$Change"
def sl_F0 : u_T := fun k => match k with
  | 0 => ("SpanLayers$Change", "kinds", "[I", true)
  | 1 => ("SpanLayers$Change", "firsts", "[I", true)
  | 2 => ("SpanLayers$Change", "seconds", "[I", true)
  | _ => ("SpanLayers$Change", "count", "I", false)
def sl_t0 : Nat → FieldType := fun k => match k with
  | 0 => .array .int
  | 1 => .array .int
  | 2 => .array .int
  | _ => .int
theorem sl_nm0 : ∀ a, a < 4 → ∀ b, b < 4 → a ≠ b → (sl_F0 a).2.1 ≠ (sl_F0 b).2.1 := by decide +kernel
theorem sl_ty0 : ∀ k, k < 4 → parseFieldDescriptor (sl_F0 k).2.2.1 = some (sl_t0 k) := by decide +kernel
theorem sl_i0 : ∀ w ∈ u_ws sl_R0 sl_F0 4, w ∈ sl_T0 := sl_inL [268, 270, 272, 274] (by decide +kernel) (by decide +kernel)
def sl_R1 : String := "SpanLayers$Choice"
def sl_F1 : u_T := fun k => match k with
  | 0 => ("SpanLayers$Choice", "numbers", "[I", true)
  | 1 => ("SpanLayers$Choice", "highs", "[I", true)
  | 2 => ("SpanLayers$Choice", "count", "I", false)
  | _ => ("SpanLayers$Choice", "best", "[I", true)
def sl_t1 : Nat → FieldType := fun k => match k with
  | 0 => .array .int
  | 1 => .array .int
  | 2 => .int
  | _ => .array .int
theorem sl_nm1 : ∀ a, a < 4 → ∀ b, b < 4 → a ≠ b → (sl_F1 a).2.1 ≠ (sl_F1 b).2.1 := by decide +kernel
theorem sl_ty1 : ∀ k, k < 4 → parseFieldDescriptor (sl_F1 k).2.2.1 = some (sl_t1 k) := by decide +kernel
theorem sl_i1 : ∀ w ∈ u_ws sl_R1 sl_F1 4, w ∈ sl_T0 := sl_inL [218, 220, 222, 224] (by decide +kernel) (by decide +kernel)
def sl_R2 : String := "SpanLayers$Condition"
def sl_F2 : u_T := fun k => match k with
  | _ => ("", "", "", false)
def sl_t2 : Nat → FieldType := fun k => match k with
  | _ => .int
theorem sl_nm2 : ∀ a, a < 0 → ∀ b, b < 0 → a ≠ b → (sl_F2 a).2.1 ≠ (sl_F2 b).2.1 := by decide +kernel
theorem sl_ty2 : ∀ k, k < 0 → parseFieldDescriptor (sl_F2 k).2.2.1 = some (sl_t2 k) := by decide +kernel
theorem sl_i2 : ∀ w ∈ u_ws sl_R2 sl_F2 0, w ∈ sl_T0 := sl_inL [] (by decide +kernel) (by decide +kernel)
def sl_R3 : String := "SpanLayers$Coverage"
def sl_F3 : u_T := fun k => match k with
  | 0 => ("SpanLayers$Coverage", "first", "[I", true)
  | 1 => ("SpanLayers$Coverage", "last", "[I", true)
  | 2 => ("SpanLayers$Coverage", "spans", "[I", true)
  | _ => ("SpanLayers$Coverage", "pieces", "I", false)
def sl_t3 : Nat → FieldType := fun k => match k with
  | 0 => .array .int
  | 1 => .array .int
  | 2 => .array .int
  | _ => .int
theorem sl_nm3 : ∀ a, a < 4 → ∀ b, b < 4 → a ≠ b → (sl_F3 a).2.1 ≠ (sl_F3 b).2.1 := by decide +kernel
theorem sl_ty3 : ∀ k, k < 4 → parseFieldDescriptor (sl_F3 k).2.2.1 = some (sl_t3 k) := by decide +kernel
theorem sl_i3 : ∀ w ∈ u_ws sl_R3 sl_F3 4, w ∈ sl_T0 := sl_inL [195, 197, 199, 201] (by decide +kernel) (by decide +kernel)
def sl_R4 : String := "SpanLayers$Cursor"
def sl_F4 : u_T := fun k => match k with
  | 0 => ("SpanLayers$Cursor", "isOpen", "Z", false)
  | 1 => ("SpanLayers$Cursor", "order", "I", false)
  | 2 => ("SpanLayers$Cursor", "hasTold", "Z", false)
  | _ => ("SpanLayers$Cursor", "last", "LSpanLayers$Span;", true)
def sl_t4 : Nat → FieldType := fun k => match k with
  | 0 => .boolean
  | 1 => .int
  | 2 => .boolean
  | _ => .object "SpanLayers$Span"
theorem sl_nm4 : ∀ a, a < 4 → ∀ b, b < 4 → a ≠ b → (sl_F4 a).2.1 ≠ (sl_F4 b).2.1 := by decide +kernel
theorem sl_ty4 : ∀ k, k < 4 → parseFieldDescriptor (sl_F4 k).2.2.1 = some (sl_t4 k) := by decide +kernel
theorem sl_i4 : ∀ w ∈ u_ws sl_R4 sl_F4 4, w ∈ sl_T0 := sl_inL [330, 332, 334, 336] (by decide +kernel) (by decide +kernel)
def sl_R5 : String := "SpanLayers$Index"
def sl_F5 : u_T := fun k => match k with
  | 0 => ("SpanLayers$Index", "spans", "[LSpanLayers$Span;", true)
  | _ => ("SpanLayers$Index", "sorted", "[LSpanLayers$Span;", true)
def sl_t5 : Nat → FieldType := fun k => match k with
  | 0 => .array (.object "SpanLayers$Span")
  | _ => .array (.object "SpanLayers$Span")
theorem sl_nm5 : ∀ a, a < 2 → ∀ b, b < 2 → a ≠ b → (sl_F5 a).2.1 ≠ (sl_F5 b).2.1 := by decide +kernel
theorem sl_ty5 : ∀ k, k < 2 → parseFieldDescriptor (sl_F5 k).2.2.1 = some (sl_t5 k) := by decide +kernel
theorem sl_i5 : ∀ w ∈ u_ws sl_R5 sl_F5 2, w ∈ sl_T0 := sl_inL [176, 178] (by decide +kernel) (by decide +kernel)
def sl_R6 : String := "SpanLayers$Paper"
def sl_F6 : u_T := fun k => match k with
  | 0 => ("SpanLayers$Paper", "bytes", "[I", true)
  | _ => ("SpanLayers$Paper", "used", "I", false)
def sl_t6 : Nat → FieldType := fun k => match k with
  | 0 => .array .int
  | _ => .int
theorem sl_nm6 : ∀ a, a < 2 → ∀ b, b < 2 → a ≠ b → (sl_F6 a).2.1 ≠ (sl_F6 b).2.1 := by decide +kernel
theorem sl_ty6 : ∀ k, k < 2 → parseFieldDescriptor (sl_F6 k).2.2.1 = some (sl_t6 k) := by decide +kernel
theorem sl_i6 : ∀ w ∈ u_ws sl_R6 sl_F6 2, w ∈ sl_T0 := sl_inL [306, 308] (by decide +kernel) (by decide +kernel)
def sl_R7 : String := "SpanLayers$Parts"
def sl_F7 : u_T := fun k => match k with
  | 0 => ("SpanLayers$Parts", "lows", "[I", true)
  | 1 => ("SpanLayers$Parts", "highs", "[I", true)
  | 2 => ("SpanLayers$Parts", "weights", "[I", true)
  | _ => ("SpanLayers$Parts", "count", "I", false)
def sl_t7 : Nat → FieldType := fun k => match k with
  | 0 => .array .int
  | 1 => .array .int
  | 2 => .array .int
  | _ => .int
theorem sl_nm7 : ∀ a, a < 4 → ∀ b, b < 4 → a ≠ b → (sl_F7 a).2.1 ≠ (sl_F7 b).2.1 := by decide +kernel
theorem sl_ty7 : ∀ k, k < 4 → parseFieldDescriptor (sl_F7 k).2.2.1 = some (sl_t7 k) := by decide +kernel
theorem sl_i7 : ∀ w ∈ u_ws sl_R7 sl_F7 4, w ∈ sl_T0 := sl_inL [287, 289, 291, 293] (by decide +kernel) (by decide +kernel)
def sl_R8 : String := "SpanLayers$Row"
def sl_F8 : u_T := fun k => match k with
  | 0 => ("SpanLayers$Row", "places", "[I", true)
  | 1 => ("SpanLayers$Row", "isHeld", "Z", false)
  | _ => ("SpanLayers$Row", "size", "I", false)
def sl_t8 : Nat → FieldType := fun k => match k with
  | 0 => .array .int
  | 1 => .boolean
  | _ => .int
theorem sl_nm8 : ∀ a, a < 3 → ∀ b, b < 3 → a ≠ b → (sl_F8 a).2.1 ≠ (sl_F8 b).2.1 := by decide +kernel
theorem sl_ty8 : ∀ k, k < 3 → parseFieldDescriptor (sl_F8 k).2.2.1 = some (sl_t8 k) := by decide +kernel
theorem sl_i8 : ∀ w ∈ u_ws sl_R8 sl_F8 3, w ∈ sl_T0 := sl_inL [349, 351, 353] (by decide +kernel) (by decide +kernel)
def sl_R9 : String := "SpanLayers$Span"
def sl_F9 : u_T := fun k => match k with
  | 0 => ("SpanLayers$Span", "number", "I", false)
  | 1 => ("SpanLayers$Span", "isIn", "Z", false)
  | 2 => ("SpanLayers$Span", "low", "I", false)
  | 3 => ("SpanLayers$Span", "high", "I", false)
  | 4 => ("SpanLayers$Span", "weight", "I", false)
  | _ => ("SpanLayers$Span", "layer", "I", false)
def sl_t9 : Nat → FieldType := fun k => match k with
  | 0 => .int
  | 1 => .boolean
  | 2 => .int
  | 3 => .int
  | 4 => .int
  | _ => .int
theorem sl_nm9 : ∀ a, a < 6 → ∀ b, b < 6 → a ≠ b → (sl_F9 a).2.1 ≠ (sl_F9 b).2.1 := by decide +kernel
theorem sl_ty9 : ∀ k, k < 6 → parseFieldDescriptor (sl_F9 k).2.2.1 = some (sl_t9 k) := by decide +kernel
theorem sl_i9 : ∀ w ∈ u_ws sl_R9 sl_F9 6, w ∈ sl_T0 := sl_inL [153, 155, 157, 159, 161, 163] (by decide +kernel) (by decide +kernel)
def sl_R10 : String := "SpanLayers$Tape"
def sl_F10 : u_T := fun k => match k with
  | 0 => ("SpanLayers$Tape", "bytes", "[I", true)
  | 1 => ("SpanLayers$Tape", "used", "I", false)
  | 2 => ("SpanLayers$Tape", "at", "I", false)
  | _ => ("SpanLayers$Tape", "fault", "I", false)
def sl_t10 : Nat → FieldType := fun k => match k with
  | 0 => .array .int
  | 1 => .int
  | 2 => .int
  | _ => .int
theorem sl_nm10 : ∀ a, a < 4 → ∀ b, b < 4 → a ≠ b → (sl_F10 a).2.1 ≠ (sl_F10 b).2.1 := by decide +kernel
theorem sl_ty10 : ∀ k, k < 4 → parseFieldDescriptor (sl_F10 k).2.2.1 = some (sl_t10 k) := by decide +kernel
theorem sl_i10 : ∀ w ∈ u_ws sl_R10 sl_F10 4, w ∈ sl_T0 := sl_inL [242, 244, 246, 248] (by decide +kernel) (by decide +kernel)
def sl_R11 : String := "SpanLayers"
def sl_F11 : u_T := fun k => match k with
  | 0 => ("SpanLayers", "index", "LSpanLayers$Index;", true)
  | 1 => ("SpanLayers", "coverage", "LSpanLayers$Coverage;", true)
  | 2 => ("SpanLayers", "choice", "LSpanLayers$Choice;", true)
  | 3 => ("SpanLayers", "cursors", "[LSpanLayers$Cursor;", true)
  | 4 => ("SpanLayers", "tape", "LSpanLayers$Tape;", true)
  | 5 => ("SpanLayers", "condition", "LSpanLayers$Condition;", true)
  | 6 => ("SpanLayers", "steps", "LSpanLayers$Change;", true)
  | 7 => ("SpanLayers", "parts", "LSpanLayers$Parts;", true)
  | 8 => ("SpanLayers", "sheet", "LSpanLayers$Paper;", true)
  | 9 => ("SpanLayers", "rows", "[LSpanLayers$Row;", true)
  | 10 => ("SpanLayers", "kept", "LSpanLayers$Index;", true)
  | _ => ("SpanLayers", "isKept", "Z", false)
def sl_t11 : Nat → FieldType := fun k => match k with
  | 0 => .object "SpanLayers$Index"
  | 1 => .object "SpanLayers$Coverage"
  | 2 => .object "SpanLayers$Choice"
  | 3 => .array (.object "SpanLayers$Cursor")
  | 4 => .object "SpanLayers$Tape"
  | 5 => .object "SpanLayers$Condition"
  | 6 => .object "SpanLayers$Change"
  | 7 => .object "SpanLayers$Parts"
  | 8 => .object "SpanLayers$Paper"
  | 9 => .array (.object "SpanLayers$Row")
  | 10 => .object "SpanLayers$Index"
  | _ => .boolean
theorem sl_nm11 : ∀ a, a < 12 → ∀ b, b < 12 → a ≠ b → (sl_F11 a).2.1 ≠ (sl_F11 b).2.1 := by decide +kernel
theorem sl_ty11 : ∀ k, k < 12 → parseFieldDescriptor (sl_F11 k).2.2.1 = some (sl_t11 k) := by decide +kernel
theorem sl_i11 : ∀ w ∈ u_ws sl_R11 sl_F11 12, w ∈ sl_T0 := sl_inL [368, 370, 372, 374, 376, 378, 380, 382, 384, 386, 388, 390] (by decide +kernel) (by decide +kernel)
def sl_R12 : String := "SpanLayersModel"
def sl_F12 : u_T := fun k => match k with
  | 0 => ("SpanLayersModel", "lows", "[I", true)
  | 1 => ("SpanLayersModel", "highs", "[I", true)
  | 2 => ("SpanLayersModel", "weights", "[I", true)
  | 3 => ("SpanLayersModel", "isIn", "[I", true)
  | 4 => ("SpanLayersModel", "layers", "[I", true)
  | 5 => ("SpanLayersModel", "thrown", "I", false)
  | 6 => ("SpanLayersModel", "ordered", "[I", true)
  | 7 => ("SpanLayersModel", "orders", "[I", true)
  | 8 => ("SpanLayersModel", "toldOf", "[I", true)
  | 9 => ("SpanLayersModel", "toldFirst", "[I", true)
  | 10 => ("SpanLayersModel", "toldSecond", "[I", true)
  | 11 => ("SpanLayersModel", "depths", "[I", true)
  | 12 => ("SpanLayersModel", "loads", "[I", true)
  | 13 => ("SpanLayersModel", "runs", "I", false)
  | 14 => ("SpanLayersModel", "runFrom", "[I", true)
  | 15 => ("SpanLayersModel", "runTo", "[I", true)
  | 16 => ("SpanLayersModel", "many0", "I", false)
  | 17 => ("SpanLayersModel", "taken", "[I", true)
  | 18 => ("SpanLayersModel", "bests", "[I", true)
  | 19 => ("SpanLayersModel", "tape", "[I", true)
  | 20 => ("SpanLayersModel", "size", "I", false)
  | 21 => ("SpanLayersModel", "place0", "I", false)
  | 22 => ("SpanLayersModel", "isBad", "Z", false)
  | 23 => ("SpanLayersModel", "done0", "I", false)
  | 24 => ("SpanLayersModel", "doneWhat", "[I", true)
  | 25 => ("SpanLayersModel", "testWord", "[I", true)
  | 26 => ("SpanLayersModel", "testSign", "[I", true)
  | 27 => ("SpanLayersModel", "testNumber", "[I", true)
  | 28 => ("SpanLayersModel", "waiting", "I", false)
  | 29 => ("SpanLayersModel", "waits", "[I", true)
  | 30 => ("SpanLayersModel", "brackets", "I", false)
  | 31 => ("SpanLayersModel", "held0", "[Z", true)
  | 32 => ("SpanLayersModel", "steps", "I", false)
  | 33 => ("SpanLayersModel", "stepWhat", "[I", true)
  | 34 => ("SpanLayersModel", "stepA", "[I", true)
  | 35 => ("SpanLayersModel", "stepB", "[I", true)
  | 36 => ("SpanLayersModel", "lowNow", "I", false)
  | 37 => ("SpanLayersModel", "highNow", "I", false)
  | 38 => ("SpanLayersModel", "weightNow", "I", false)
  | 39 => ("SpanLayersModel", "parts", "I", false)
  | 40 => ("SpanLayersModel", "partLow", "[I", true)
  | 41 => ("SpanLayersModel", "partHigh", "[I", true)
  | 42 => ("SpanLayersModel", "partWeight", "[I", true)
  | 43 => ("SpanLayersModel", "paper0", "[I", true)
  | 44 => ("SpanLayersModel", "paperSize", "I", false)
  | 45 => ("SpanLayersModel", "holdsList", "[Z", true)
  | 46 => ("SpanLayersModel", "listMany", "[I", true)
  | 47 => ("SpanLayersModel", "listed", "[I", true)
  | 48 => ("SpanLayersModel", "hasImage", "Z", false)
  | _ => ("SpanLayersModel", "imaged", "[I", true)
def sl_t12 : Nat → FieldType := fun k => match k with
  | 0 => .array .int
  | 1 => .array .int
  | 2 => .array .int
  | 3 => .array .int
  | 4 => .array .int
  | 5 => .int
  | 6 => .array .int
  | 7 => .array .int
  | 8 => .array .int
  | 9 => .array .int
  | 10 => .array .int
  | 11 => .array .int
  | 12 => .array .int
  | 13 => .int
  | 14 => .array .int
  | 15 => .array .int
  | 16 => .int
  | 17 => .array .int
  | 18 => .array .int
  | 19 => .array .int
  | 20 => .int
  | 21 => .int
  | 22 => .boolean
  | 23 => .int
  | 24 => .array .int
  | 25 => .array .int
  | 26 => .array .int
  | 27 => .array .int
  | 28 => .int
  | 29 => .array .int
  | 30 => .int
  | 31 => .array .boolean
  | 32 => .int
  | 33 => .array .int
  | 34 => .array .int
  | 35 => .array .int
  | 36 => .int
  | 37 => .int
  | 38 => .int
  | 39 => .int
  | 40 => .array .int
  | 41 => .array .int
  | 42 => .array .int
  | 43 => .array .int
  | 44 => .int
  | 45 => .array .boolean
  | 46 => .array .int
  | 47 => .array .int
  | 48 => .boolean
  | _ => .array .int
theorem sl_nm12 : ∀ a, a < 50 → ∀ b, b < 50 → a ≠ b → (sl_F12 a).2.1 ≠ (sl_F12 b).2.1 := by decide +kernel
theorem sl_ty12 : ∀ k, k < 50 → parseFieldDescriptor (sl_F12 k).2.2.1 = some (sl_t12 k) := by decide +kernel
theorem sl_i12 : ∀ w ∈ u_ws sl_R12 sl_F12 50, w ∈ sl_T0 := sl_inL [1067, 1069, 1071, 1073, 1075, 1077, 1079, 1081, 1083, 1085, 1087, 1089, 1091, 1093, 1095, 1097, 1099, 1101, 1103, 1105, 1107, 1109, 1111, 1113, 1115, 1117, 1119, 1121, 1123, 1125, 1127, 1129, 1131, 1133, 1135, 1137, 1139, 1141, 1143, 1145, 1147, 1149, 1151, 1153, 1155, 1157, 1159, 1161, 1163, 1165] (by decide +kernel) (by decide +kernel)
abbrev sl_cl : List vw_C := [(sl_R0, sl_F0, 4), (sl_R1, sl_F1, 4), (sl_R2, sl_F2, 0), (sl_R3, sl_F3, 4), (sl_R4, sl_F4, 4), (sl_R5, sl_F5, 2), (sl_R6, sl_F6, 2), (sl_R7, sl_F7, 4), (sl_R8, sl_F8, 3), (sl_R9, sl_F9, 6), (sl_R10, sl_F10, 4), (sl_R11, sl_F11, 12), (sl_R12, sl_F12, 50)]
def sl_N : Nat := 139
def sl_kinds : List Nat := [11, 5, 22, 23, 9, 9, 9, 9, 9, 9, 9, 9, 9, 9, 9, 9, 9, 9, 9, 9, 9, 9, 9, 9, 9, 9, 9, 9, 9, 9, 9, 9, 9, 9, 3, 20, 20, 20, 1, 20, 20, 20, 24, 10, 20, 2, 0, 20, 20, 20, 7, 20, 20, 20, 6, 20, 25, 5, 22, 23, 9, 9, 9, 9, 9, 9, 9, 9, 9, 9, 9, 9, 9, 9, 9, 9, 9, 9, 9, 9, 9, 9, 9, 9, 9, 9, 9, 9, 9, 9, 4, 9, 4, 9, 4, 9, 8, 20, 8, 20, 8, 20, 8, 20, 12, 20, 20, 20, 20, 20, 20, 20, 20, 20, 20, 20, 20, 20, 20, 20, 20, 20, 20, 20, 20, 20, 20, 21, 20, 20, 20, 20, 20, 20, 20, 21, 20, 20, 20]
def sl_lens : List Nat := [0, 0, 30, 30, 0, 0, 0, 0, 0, 0, 0, 0, 0, 0, 0, 0, 0, 0, 0, 0, 0, 0, 0, 0, 0, 0, 0, 0, 0, 0, 0, 0, 0, 0, 0, 30, 30, 30, 0, 30, 30, 31, 3, 0, 80, 0, 0, 5, 5, 5, 0, 20, 20, 20, 0, 360, 4, 0, 30, 30, 0, 0, 0, 0, 0, 0, 0, 0, 0, 0, 0, 0, 0, 0, 0, 0, 0, 0, 0, 0, 0, 0, 0, 0, 0, 0, 0, 0, 0, 0, 0, 0, 0, 0, 0, 0, 0, 40, 0, 40, 0, 40, 0, 40, 0, 30, 30, 30, 30, 30, 30, 3, 3, 3, 3, 1000, 1000, 31, 31, 30, 1001, 80, 90, 90, 90, 90, 90, 90, 5, 5, 5, 27, 27, 27, 400, 4, 4, 160, 120]
def sl_ft : List (List (Nat × Nat × Nat)) := [[(2, 20, 1), (2, 20, 2), (2, 20, 3), (0, 0, 0)], [(2, 20, 1), (2, 20, 2), (0, 0, 0), (2, 20, 3)], [], [(2, 20, 1), (2, 20, 2), (2, 20, 3), (0, 0, 0)], [(1, 0, 0), (0, 0, 0), (1, 0, 0), (2, 9, 1)], [(2, 22, 1), (2, 23, 2)], [(2, 20, 1), (0, 0, 0)], [(2, 20, 1), (2, 20, 2), (2, 20, 3), (0, 0, 0)], [(2, 20, 1), (1, 0, 0), (0, 0, 0)], [(0, 0, 0), (1, 0, 0), (0, 0, 0), (0, 0, 0), (0, 0, 0), (0, 0, 0)], [(2, 20, 1), (0, 0, 0), (0, 0, 0), (0, 0, 0)], [(2, 5, 1), (2, 3, 34), (2, 1, 38), (2, 24, 42), (2, 10, 43), (2, 2, 45), (2, 0, 46), (2, 7, 50), (2, 6, 54), (2, 25, 56), (2, 5, 57), (1, 0, 0)], [(2, 20, 1), (2, 20, 2), (2, 20, 3), (2, 20, 4), (2, 20, 5), (0, 0, 0), (2, 20, 6), (2, 20, 7), (2, 20, 8), (2, 20, 9), (2, 20, 10), (2, 20, 11), (2, 20, 12), (0, 0, 0), (2, 20, 13), (2, 20, 14), (0, 0, 0), (2, 20, 15), (2, 20, 16), (2, 20, 17), (0, 0, 0), (0, 0, 0), (1, 0, 0), (0, 0, 0), (2, 20, 18), (2, 20, 19), (2, 20, 20), (2, 20, 21), (0, 0, 0), (2, 20, 22), (0, 0, 0), (2, 21, 23), (0, 0, 0), (2, 20, 24), (2, 20, 25), (2, 20, 26), (0, 0, 0), (0, 0, 0), (0, 0, 0), (0, 0, 0), (2, 20, 27), (2, 20, 28), (2, 20, 29), (2, 20, 30), (0, 0, 0), (2, 21, 31), (2, 20, 32), (2, 20, 33), (1, 0, 0), (2, 20, 34)]]
def sl_nest : List (String × Nat × MethodName × String) := [("SpanLayers", 18, ⟨"SpanLayers$Coverage", "<init>", "()V"⟩, "SpanLayers"), ("SpanLayers", 25, ⟨"SpanLayers$Choice", "<init>", "()V"⟩, "SpanLayers"), ("SpanLayers", 38, ⟨"SpanLayers$Tape", "<init>", "()V"⟩, "SpanLayers"), ("SpanLayers", 45, ⟨"SpanLayers$Condition", "<init>", "()V"⟩, "SpanLayers"), ("SpanLayers", 52, ⟨"SpanLayers$Change", "<init>", "()V"⟩, "SpanLayers"), ("SpanLayers", 59, ⟨"SpanLayers$Parts", "<init>", "()V"⟩, "SpanLayers"), ("SpanLayers", 66, ⟨"SpanLayers$Paper", "<init>", "()V"⟩, "SpanLayers"), ("SpanLayers", 80, ⟨"SpanLayers$Cursor", "<init>", "()V"⟩, "SpanLayers"), ("SpanLayers", 81, ⟨"SpanLayers$Row", "<init>", "()V"⟩, "SpanLayers"), ("SpanLayers$Index", 27, ⟨"SpanLayers", "isBelow", "(II)Z"⟩, "SpanLayers"), ("SpanLayers$Index", 45, ⟨"SpanLayers", "isOfSet", "(II)Z"⟩, "SpanLayers"), ("SpanLayers", 246, ⟨"SpanLayers$Condition", "readEither", "(LSpanLayers$Tape;LSpanLayers$Index;I)I"⟩, "SpanLayers"), ("SpanLayers$Change", 67, ⟨"SpanLayers", "isOfSet", "(II)Z"⟩, "SpanLayers"), ("SpanLayers$Row", 23, ⟨"SpanLayers", "isBelow", "(II)Z"⟩, "SpanLayers")]
theorem sl_nest_tbl : ∀ q ∈ sl_nest, Cond.methodLinkNest q.1 q.2.1 q.2.2.1 q.2.2.2 ∈ lw_tbl := List.forall_mem_cons.mpr ⟨List.mem_of_getElem? (i := 183) (by decide +kernel), List.forall_mem_cons.mpr ⟨List.mem_of_getElem? (i := 207) (by decide +kernel), List.forall_mem_cons.mpr ⟨List.mem_of_getElem? (i := 231) (by decide +kernel), List.forall_mem_cons.mpr ⟨List.mem_of_getElem? (i := 253) (by decide +kernel), List.forall_mem_cons.mpr ⟨List.mem_of_getElem? (i := 260) (by decide +kernel), List.forall_mem_cons.mpr ⟨List.mem_of_getElem? (i := 279) (by decide +kernel), List.forall_mem_cons.mpr ⟨List.mem_of_getElem? (i := 298) (by decide +kernel), List.forall_mem_cons.mpr ⟨List.mem_of_getElem? (i := 314) (by decide +kernel), List.forall_mem_cons.mpr ⟨List.mem_of_getElem? (i := 340) (by decide +kernel), List.forall_mem_cons.mpr ⟨List.mem_of_getElem? (i := 417) (by decide +kernel), List.forall_mem_cons.mpr ⟨List.mem_of_getElem? (i := 465) (by decide +kernel), List.forall_mem_cons.mpr ⟨List.mem_of_getElem? (i := 727) (by decide +kernel), List.forall_mem_cons.mpr ⟨List.mem_of_getElem? (i := 881) (by decide +kernel), List.forall_mem_cons.mpr ⟨List.mem_of_getElem? (i := 983) (by decide +kernel), fun _ h => absurd h List.not_mem_nil⟩⟩⟩⟩⟩⟩⟩⟩⟩⟩⟩⟩⟩⟩
