/-! my own: the words that every call may hand on, the classes, the cells -/
def lw_g : List Cond := lw_tbl.filter goodWord
theorem mg {w : Cond} (i : Nat) (h : lw_tbl[i]? = some w) (hg : goodWord w = true) : w ∈ lw_g := List.mem_filter.mpr ⟨List.mem_of_getElem? h, hg⟩
theorem lw_gin : ∀ w ∈ lw_g, w ∈ lw_tbl := fun _ h => (List.mem_filter.mp h).1
def RX0 : String := "WalledFields$Blame"
def TX0 : u_T := fun k => match k with
  | 0 => ("WalledFields$Blame", "how", "I", false)
  | 1 => ("WalledFields$Blame", "other", "I", false)
  | _ => ("WalledFields$Blame", "inText", "Z", false)
def tyX0 : Nat → FieldType := fun k => match k with
  | 0 => .int
  | 1 => .int
  | _ => .boolean
theorem nmX0 : ∀ a, a < 3 → ∀ b, b < 3 → a ≠ b → (TX0 a).2.1 ≠ (TX0 b).2.1 := by decide +kernel
theorem tyX0_ok : ∀ k, k < 3 → parseFieldDescriptor (TX0 k).2.2.1 = some (tyX0 k) := by decide +kernel
set_option maxRecDepth 20000 in
theorem inX0 : ∀ w ∈ u_ws RX0 TX0 3, w ∈ lw_g := by decide +kernel
def RX1 : String := "WalledFields$Estate"
def TX1 : u_T := fun k => match k with
  | 0 => ("WalledFields$Estate", "walls", "[LWalledFields$Wall;", true)
  | 1 => ("WalledFields$Estate", "many", "I", false)
  | 2 => ("WalledFields$Estate", "tide", "I", false)
  | 3 => ("WalledFields$Estate", "ledger", "J", false)
  | _ => ("WalledFields$Estate", "z", "I", false)
def tyX1 : Nat → FieldType := fun k => match k with
  | 0 => .array (.object "WalledFields$Wall")
  | 1 => .int
  | 2 => .int
  | 3 => .long
  | _ => .int
theorem nmX1 : ∀ a, a < 5 → ∀ b, b < 5 → a ≠ b → (TX1 a).2.1 ≠ (TX1 b).2.1 := by decide +kernel
theorem tyX1_ok : ∀ k, k < 5 → parseFieldDescriptor (TX1 k).2.2.1 = some (tyX1 k) := by decide +kernel
set_option maxRecDepth 20000 in
theorem inX1 : ∀ w ∈ u_ws RX1 TX1 5, w ∈ lw_g := by decide +kernel
def RX2 : String := "WalledFields$Land"
def TX2 : u_T := fun k => match k with
  | 0 => ("WalledFields$Land", "segments", "I", false)
  | 1 => ("WalledFields$Land", "ends", "I", false)
  | 2 => ("WalledFields$Land", "endX", "[I", true)
  | 3 => ("WalledFields$Land", "endY", "[I", true)
  | 4 => ("WalledFields$Land", "firstEnd", "[I", true)
  | 5 => ("WalledFields$Land", "lastEnd", "[I", true)
  | 6 => ("WalledFields$Land", "stack", "[I", true)
  | 7 => ("WalledFields$Land", "height", "[I", true)
  | 8 => ("WalledFields$Land", "cells", "I", false)
  | 9 => ("WalledFields$Land", "firstCell", "[I", true)
  | 10 => ("WalledFields$Land", "cellStrip", "[I", true)
  | 11 => ("WalledFields$Land", "cellFloor", "[I", true)
  | 12 => ("WalledFields$Land", "cellRoof", "[I", true)
  | 13 => ("WalledFields$Land", "cellField", "[I", true)
  | 14 => ("WalledFields$Land", "fields", "I", false)
  | 15 => ("WalledFields$Land", "fieldCell", "[I", true)
  | 16 => ("WalledFields$Land", "fieldFirst", "[I", true)
  | 17 => ("WalledFields$Land", "fieldLast", "[I", true)
  | _ => ("WalledFields$Land", "gates", "[I", true)
def tyX2 : Nat → FieldType := fun k => match k with
  | 0 => .int
  | 1 => .int
  | 2 => .array (.int)
  | 3 => .array (.int)
  | 4 => .array (.int)
  | 5 => .array (.int)
  | 6 => .array (.int)
  | 7 => .array (.int)
  | 8 => .int
  | 9 => .array (.int)
  | 10 => .array (.int)
  | 11 => .array (.int)
  | 12 => .array (.int)
  | 13 => .array (.int)
  | 14 => .int
  | 15 => .array (.int)
  | 16 => .array (.int)
  | 17 => .array (.int)
  | _ => .array (.int)
theorem nmX2 : ∀ a, a < 19 → ∀ b, b < 19 → a ≠ b → (TX2 a).2.1 ≠ (TX2 b).2.1 := by decide +kernel
theorem tyX2_ok : ∀ k, k < 19 → parseFieldDescriptor (TX2 k).2.2.1 = some (tyX2 k) := by decide +kernel
set_option maxRecDepth 20000 in
theorem inX2 : ∀ w ∈ u_ws RX2 TX2 19, w ∈ lw_g := by decide +kernel
def RX3 : String := "WalledFields$Reader"
def TX3 : u_T := fun k => match k with
  | 0 => ("WalledFields$Reader", "tape", "[B", true)
  | 1 => ("WalledFields$Reader", "size", "I", false)
  | 2 => ("WalledFields$Reader", "sort", "I", false)
  | 3 => ("WalledFields$Reader", "start", "I", false)
  | 4 => ("WalledFields$Reader", "stop", "I", false)
  | 5 => ("WalledFields$Reader", "value", "I", false)
  | 6 => ("WalledFields$Reader", "fault", "I", false)
  | 7 => ("WalledFields$Reader", "wall", "LWalledFields$Wall;", true)
  | _ => ("WalledFields$Reader", "told", "[I", true)
def tyX3 : Nat → FieldType := fun k => match k with
  | 0 => .array (.byte)
  | 1 => .int
  | 2 => .int
  | 3 => .int
  | 4 => .int
  | 5 => .int
  | 6 => .int
  | 7 => .object "WalledFields$Wall"
  | _ => .array (.int)
theorem nmX3 : ∀ a, a < 9 → ∀ b, b < 9 → a ≠ b → (TX3 a).2.1 ≠ (TX3 b).2.1 := by decide +kernel
theorem tyX3_ok : ∀ k, k < 9 → parseFieldDescriptor (TX3 k).2.2.1 = some (tyX3 k) := by decide +kernel
set_option maxRecDepth 20000 in
theorem inX3 : ∀ w ∈ u_ws RX3 TX3 9, w ∈ lw_g := by decide +kernel
def RX4 : String := "WalledFields$Searches"
def TX4 : u_T := fun k => match k with
  | 0 => ("WalledFields$Searches", "land", "LWalledFields$Land;", true)
  | 1 => ("WalledFields$Searches", "order", "[I", true)
  | 2 => ("WalledFields$Searches", "depth", "I", false)
  | 3 => ("WalledFields$Searches", "sum", "I", false)
  | 4 => ("WalledFields$Searches", "over", "[I", true)
  | 5 => ("WalledFields$Searches", "under", "[I", true)
  | 6 => ("WalledFields$Searches", "begins", "[I", true)
  | 7 => ("WalledFields$Searches", "closes", "[I", true)
  | 8 => ("WalledFields$Searches", "gapFirst", "I", false)
  | 9 => ("WalledFields$Searches", "gapLast", "I", false)
  | 10 => ("WalledFields$Searches", "gapInside", "I", false)
  | 11 => ("WalledFields$Searches", "best", "I", false)
  | 12 => ("WalledFields$Searches", "bestDepth", "I", false)
  | 13 => ("WalledFields$Searches", "bestSum", "I", false)
  | 14 => ("WalledFields$Searches", "known", "[I", true)
  | 15 => ("WalledFields$Searches", "tried", "[I", true)
  | 16 => ("WalledFields$Searches", "triedWell", "I", false)
  | _ => ("WalledFields$Searches", "totals", "[I", true)
def tyX4 : Nat → FieldType := fun k => match k with
  | 0 => .object "WalledFields$Land"
  | 1 => .array (.int)
  | 2 => .int
  | 3 => .int
  | 4 => .array (.int)
  | 5 => .array (.int)
  | 6 => .array (.int)
  | 7 => .array (.int)
  | 8 => .int
  | 9 => .int
  | 10 => .int
  | 11 => .int
  | 12 => .int
  | 13 => .int
  | 14 => .array (.int)
  | 15 => .array (.int)
  | 16 => .int
  | _ => .array (.int)
theorem nmX4 : ∀ a, a < 18 → ∀ b, b < 18 → a ≠ b → (TX4 a).2.1 ≠ (TX4 b).2.1 := by decide +kernel
theorem tyX4_ok : ∀ k, k < 18 → parseFieldDescriptor (TX4 k).2.2.1 = some (tyX4 k) := by decide +kernel
set_option maxRecDepth 20000 in
theorem inX4 : ∀ w ∈ u_ws RX4 TX4 18, w ∈ lw_g := by decide +kernel
def RX5 : String := "WalledFields$Sheet"
def TX5 : u_T := fun k => match k with
  | 0 => ("WalledFields$Sheet", "sort", "I", false)
  | 1 => ("WalledFields$Sheet", "size", "I", false)
  | _ => ("WalledFields$Sheet", "numbers", "[J", true)
def tyX5 : Nat → FieldType := fun k => match k with
  | 0 => .int
  | 1 => .int
  | _ => .array (.long)
theorem nmX5 : ∀ a, a < 3 → ∀ b, b < 3 → a ≠ b → (TX5 a).2.1 ≠ (TX5 b).2.1 := by decide +kernel
theorem tyX5_ok : ∀ k, k < 3 → parseFieldDescriptor (TX5 k).2.2.1 = some (tyX5 k) := by decide +kernel
set_option maxRecDepth 20000 in
theorem inX5 : ∀ w ∈ u_ws RX5 TX5 3, w ∈ lw_g := by decide +kernel
def RX6 : String := "WalledFields$Spots"
def TX6 : u_T := fun k => match k with
  | 0 => ("WalledFields$Spots", "sorts", "[I", true)
  | _ => ("WalledFields$Spots", "values", "[I", true)
def tyX6 : Nat → FieldType := fun k => match k with
  | 0 => .array (.int)
  | _ => .array (.int)
theorem nmX6 : ∀ a, a < 2 → ∀ b, b < 2 → a ≠ b → (TX6 a).2.1 ≠ (TX6 b).2.1 := by decide +kernel
theorem tyX6_ok : ∀ k, k < 2 → parseFieldDescriptor (TX6 k).2.2.1 = some (tyX6 k) := by decide +kernel
set_option maxRecDepth 20000 in
theorem inX6 : ∀ w ∈ u_ws RX6 TX6 2, w ∈ lw_g := by decide +kernel
def RX7 : String := "WalledFields$Wall"
def TX7 : u_T := fun k => match k with
  | 0 => ("WalledFields$Wall", "kind", "I", false)
  | 1 => ("WalledFields$Wall", "width", "I", false)
  | 2 => ("WalledFields$Wall", "x", "I", false)
  | 3 => ("WalledFields$Wall", "y", "I", false)
  | 4 => ("WalledFields$Wall", "u", "I", false)
  | _ => ("WalledFields$Wall", "v", "I", false)
def tyX7 : Nat → FieldType := fun k => match k with
  | 0 => .int
  | 1 => .int
  | 2 => .int
  | 3 => .int
  | 4 => .int
  | _ => .int
theorem nmX7 : ∀ a, a < 6 → ∀ b, b < 6 → a ≠ b → (TX7 a).2.1 ≠ (TX7 b).2.1 := by decide +kernel
theorem tyX7_ok : ∀ k, k < 6 → parseFieldDescriptor (TX7 k).2.2.1 = some (tyX7 k) := by decide +kernel
set_option maxRecDepth 20000 in
theorem inX7 : ∀ w ∈ u_ws RX7 TX7 6, w ∈ lw_g := by decide +kernel
def RX8 : String := "WalledFields$Ways"
def TX8 : u_T := fun k => match k with
  | 0 => ("WalledFields$Ways", "tolls", "[I", true)
  | 1 => ("WalledFields$Ways", "costs", "[I", true)
  | _ => ("WalledFields$Ways", "isSure", "[Z", true)
def tyX8 : Nat → FieldType := fun k => match k with
  | 0 => .array (.int)
  | 1 => .array (.int)
  | _ => .array (.boolean)
theorem nmX8 : ∀ a, a < 3 → ∀ b, b < 3 → a ≠ b → (TX8 a).2.1 ≠ (TX8 b).2.1 := by decide +kernel
theorem tyX8_ok : ∀ k, k < 3 → parseFieldDescriptor (TX8 k).2.2.1 = some (tyX8 k) := by decide +kernel
set_option maxRecDepth 20000 in
theorem inX8 : ∀ w ∈ u_ws RX8 TX8 3, w ∈ lw_g := by decide +kernel
def RX9 : String := "WalledFields"
def TX9 : u_T := fun k => match k with
  | 0 => ("WalledFields", "now", "LWalledFields$Estate;", true)
  | 1 => ("WalledFields", "kept", "LWalledFields$Estate;", true)
  | 2 => ("WalledFields", "trial", "LWalledFields$Estate;", true)
  | 3 => ("WalledFields", "land", "LWalledFields$Land;", true)
  | 4 => ("WalledFields", "trialLand", "LWalledFields$Land;", true)
  | 5 => ("WalledFields", "searches", "LWalledFields$Searches;", true)
  | 6 => ("WalledFields", "ways", "LWalledFields$Ways;", true)
  | 7 => ("WalledFields", "blamed", "LWalledFields$Blame;", true)
  | 8 => ("WalledFields", "reader", "LWalledFields$Reader;", true)
  | 9 => ("WalledFields", "draft", "LWalledFields$Wall;", true)
  | 10 => ("WalledFields", "sheets", "[LWalledFields$Sheet;", true)
  | 11 => ("WalledFields", "spots", "LWalledFields$Spots;", true)
  | 12 => ("WalledFields", "rows", "[I", true)
  | 13 => ("WalledFields", "findings", "[I", true)
  | 14 => ("WalledFields", "rowsTold", "I", false)
  | _ => ("WalledFields", "isKept", "Z", false)
def tyX9 : Nat → FieldType := fun k => match k with
  | 0 => .object "WalledFields$Estate"
  | 1 => .object "WalledFields$Estate"
  | 2 => .object "WalledFields$Estate"
  | 3 => .object "WalledFields$Land"
  | 4 => .object "WalledFields$Land"
  | 5 => .object "WalledFields$Searches"
  | 6 => .object "WalledFields$Ways"
  | 7 => .object "WalledFields$Blame"
  | 8 => .object "WalledFields$Reader"
  | 9 => .object "WalledFields$Wall"
  | 10 => .array (.object "WalledFields$Sheet")
  | 11 => .object "WalledFields$Spots"
  | 12 => .array (.int)
  | 13 => .array (.int)
  | 14 => .int
  | _ => .boolean
theorem nmX9 : ∀ a, a < 16 → ∀ b, b < 16 → a ≠ b → (TX9 a).2.1 ≠ (TX9 b).2.1 := by decide +kernel
theorem tyX9_ok : ∀ k, k < 16 → parseFieldDescriptor (TX9 k).2.2.1 = some (tyX9 k) := by decide +kernel
set_option maxRecDepth 20000 in
theorem inX9 : ∀ w ∈ u_ws RX9 TX9 16, w ∈ lw_g := by decide +kernel
def RX10 : String := "WalledFieldsModel"
def TX10 : u_T := fun k => match k with
  | 0 => ("WalledFieldsModel", "many", "I", false)
  | 1 => ("WalledFieldsModel", "seg", "[[I", true)
  | 2 => ("WalledFieldsModel", "tide", "I", false)
  | 3 => ("WalledFieldsModel", "ledger", "J", false)
  | 4 => ("WalledFieldsModel", "z", "I", false)
  | 5 => ("WalledFieldsModel", "found", "[I", true)
  | 6 => ("WalledFieldsModel", "how", "I", false)
  | 7 => ("WalledFieldsModel", "whom", "I", false)
  | 8 => ("WalledFieldsModel", "inText", "I", false)
  | 9 => ("WalledFieldsModel", "trial", "[I", true)
  | 10 => ("WalledFieldsModel", "endMany", "I", false)
  | 11 => ("WalledFieldsModel", "endX", "[I", true)
  | 12 => ("WalledFieldsModel", "endY", "[I", true)
  | 13 => ("WalledFieldsModel", "firstOf", "[I", true)
  | 14 => ("WalledFieldsModel", "lastOf", "[I", true)
  | 15 => ("WalledFieldsModel", "through", "[I", true)
  | 16 => ("WalledFieldsModel", "line", "[[I", true)
  | 17 => ("WalledFieldsModel", "fieldOf", "[[I", true)
  | 18 => ("WalledFieldsModel", "fieldMany", "I", false)
  | 19 => ("WalledFieldsModel", "floor", "[I", true)
  | 20 => ("WalledFieldsModel", "roof", "[I", true)
  | 21 => ("WalledFieldsModel", "from", "[I", true)
  | 22 => ("WalledFieldsModel", "to", "[I", true)
  | 23 => ("WalledFieldsModel", "strip", "I", false)
  | 24 => ("WalledFieldsModel", "cell", "I", false)
  | 25 => ("WalledFieldsModel", "low", "I", false)
  | 26 => ("WalledFieldsModel", "high", "I", false)
  | 27 => ("WalledFieldsModel", "order", "[I", true)
  | 28 => ("WalledFieldsModel", "deepest", "I", false)
  | 29 => ("WalledFieldsModel", "sum", "I", false)
  | 30 => ("WalledFieldsModel", "told", "[[I", true)
  | 31 => ("WalledFieldsModel", "aside", "[[I", true)
  | 32 => ("WalledFieldsModel", "cost", "[[I", true)
  | 33 => ("WalledFieldsModel", "step", "[[I", true)
  | 34 => ("WalledFieldsModel", "manyAside", "I", false)
  | 35 => ("WalledFieldsModel", "rowMany", "I", false)
  | 36 => ("WalledFieldsModel", "row", "[[I", true)
  | 37 => ("WalledFieldsModel", "tape", "[I", true)
  | 38 => ("WalledFieldsModel", "taped", "I", false)
  | 39 => ("WalledFieldsModel", "spotAt", "I", false)
  | 40 => ("WalledFieldsModel", "tokenEnd", "I", false)
  | 41 => ("WalledFieldsModel", "token", "I", false)
  | 42 => ("WalledFieldsModel", "value", "I", false)
  | 43 => ("WalledFieldsModel", "fault", "I", false)
  | 44 => ("WalledFieldsModel", "sheetSort", "[I", true)
  | 45 => ("WalledFieldsModel", "sheetSize", "[I", true)
  | 46 => ("WalledFieldsModel", "cells", "[[J", true)
  | 47 => ("WalledFieldsModel", "passing", "[J", true)
  | 48 => ("WalledFieldsModel", "spot", "[I", true)
  | 49 => ("WalledFieldsModel", "spotNumber", "[I", true)
  | 50 => ("WalledFieldsModel", "isKept", "Z", false)
  | 51 => ("WalledFieldsModel", "keptMany", "I", false)
  | 52 => ("WalledFieldsModel", "kept", "[[I", true)
  | 53 => ("WalledFieldsModel", "keptTide", "I", false)
  | 54 => ("WalledFieldsModel", "keptLedger", "J", false)
  | _ => ("WalledFieldsModel", "keptZ", "I", false)
def tyX10 : Nat → FieldType := fun k => match k with
  | 0 => .int
  | 1 => .array (.array (.int))
  | 2 => .int
  | 3 => .long
  | 4 => .int
  | 5 => .array (.int)
  | 6 => .int
  | 7 => .int
  | 8 => .int
  | 9 => .array (.int)
  | 10 => .int
  | 11 => .array (.int)
  | 12 => .array (.int)
  | 13 => .array (.int)
  | 14 => .array (.int)
  | 15 => .array (.int)
  | 16 => .array (.array (.int))
  | 17 => .array (.array (.int))
  | 18 => .int
  | 19 => .array (.int)
  | 20 => .array (.int)
  | 21 => .array (.int)
  | 22 => .array (.int)
  | 23 => .int
  | 24 => .int
  | 25 => .int
  | 26 => .int
  | 27 => .array (.int)
  | 28 => .int
  | 29 => .int
  | 30 => .array (.array (.int))
  | 31 => .array (.array (.int))
  | 32 => .array (.array (.int))
  | 33 => .array (.array (.int))
  | 34 => .int
  | 35 => .int
  | 36 => .array (.array (.int))
  | 37 => .array (.int)
  | 38 => .int
  | 39 => .int
  | 40 => .int
  | 41 => .int
  | 42 => .int
  | 43 => .int
  | 44 => .array (.int)
  | 45 => .array (.int)
  | 46 => .array (.array (.long))
  | 47 => .array (.long)
  | 48 => .array (.int)
  | 49 => .array (.int)
  | 50 => .boolean
  | 51 => .int
  | 52 => .array (.array (.int))
  | 53 => .int
  | 54 => .long
  | _ => .int
theorem nmX10 : ∀ a, a < 56 → ∀ b, b < 56 → a ≠ b → (TX10 a).2.1 ≠ (TX10 b).2.1 := by decide +kernel
theorem tyX10_ok : ∀ k, k < 56 → parseFieldDescriptor (TX10 k).2.2.1 = some (tyX10 k) := by decide +kernel
set_option maxRecDepth 20000 in
theorem inX10 : ∀ w ∈ u_ws RX10 TX10 56, w ∈ lw_g := by decide +kernel
abbrev CLS : List vw_C := [(RX0, TX0, 3), (RX1, TX1, 5), (RX2, TX2, 19), (RX3, TX3, 9), (RX4, TX4, 18), (RX5, TX5, 3), (RX6, TX6, 2), (RX7, TX7, 6), (RX8, TX8, 3), (RX9, TX9, 16), (RX10, TX10, 56)]
/-- the sort of each field: 0 int, 1 long, 2 reference -/
def FTL : List (List Nat) := [[0, 0, 0], [2, 0, 0, 1, 0], [0, 0, 2, 2, 2, 2, 2, 2, 0, 2, 2, 2, 2, 2, 0, 2, 2, 2, 2], [2, 0, 0, 0, 0, 0, 0, 2, 2], [2, 2, 0, 0, 2, 2, 2, 2, 0, 0, 0, 0, 0, 0, 2, 2, 0, 2], [0, 0, 2], [2, 2], [0, 0, 0, 0, 0, 0], [2, 2, 2], [2, 2, 2, 2, 2, 2, 2, 2, 2, 2, 2, 2, 2, 2, 0, 0], [0, 2, 0, 1, 0, 2, 0, 0, 0, 2, 0, 2, 2, 2, 2, 2, 2, 2, 0, 2, 2, 2, 2, 0, 0, 0, 0, 2, 0, 0, 2, 2, 2, 2, 0, 0, 2, 2, 0, 0, 0, 0, 0, 0, 2, 2, 2, 2, 2, 2, 0, 0, 2, 0, 1, 0]]
def FTY (k i : Nat) : Nat := (FTL.getD k []).getD i 0
/-- the cells that the two constructors make: (kind, length); kinds 0 to 10 objects, 11 byte, 12 int, 13 long, 14 boolean, 15 Sheet, 16 Wall, 17 int[], 18 long[], 19 String arrays -/
def LAYL : List (Nat × Nat) := [(19, 6), (9, 16), (1, 5), (16, 6), (7, 6), (7, 6), (7, 6), (7, 6), (7, 6), (7, 6), (1, 5), (16, 6), (7, 6), (7, 6), (7, 6), (7, 6), (7, 6), (7, 6), (1, 5), (16, 6), (7, 6), (7, 6), (7, 6), (7, 6), (7, 6), (7, 6), (2, 19), (12, 12), (12, 12), (12, 6), (12, 6), (12, 78), (12, 13), (12, 13), (12, 49), (12, 49), (12, 49), (12, 49), (12, 19), (12, 19), (12, 19), (12, 361), (2, 19), (12, 12), (12, 12), (12, 6), (12, 6), (12, 78), (12, 13), (12, 13), (12, 49), (12, 49), (12, 49), (12, 49), (12, 19), (12, 19), (12, 19), (12, 361), (4, 18), (12, 6), (12, 6), (12, 6), (12, 12), (12, 12), (12, 3136), (12, 6), (12, 343), (8, 3), (12, 6), (12, 19), (14, 19), (0, 3), (3, 9), (11, 120), (7, 6), (12, 4), (7, 6), (15, 4), (6, 2), (12, 10), (12, 10), (12, 76), (12, 8), (5, 3), (13, 40), (5, 3), (13, 40), (5, 3), (13, 40), (5, 3), (13, 40), (10, 56), (17, 6), (12, 6), (12, 6), (12, 6), (12, 6), (12, 6), (12, 6), (12, 8), (12, 6), (12, 12), (12, 12), (12, 6), (12, 6), (12, 13), (17, 13), (12, 6), (12, 6), (12, 6), (12, 6), (12, 6), (12, 6), (12, 6), (12, 6), (12, 6), (12, 6), (12, 6), (12, 6), (12, 6), (17, 13), (12, 7), (12, 7), (12, 7), (12, 7), (12, 7), (12, 7), (12, 7), (12, 7), (12, 7), (12, 7), (12, 7), (12, 7), (12, 7), (12, 100), (12, 100), (12, 100), (12, 100), (12, 6), (17, 92), (12, 384), (12, 384), (12, 384), (12, 384), (12, 384), (12, 384), (12, 384), (12, 384), (12, 384), (12, 384), (12, 384), (12, 384), (12, 384), (12, 384), (12, 384), (12, 384), (12, 384), (12, 384), (12, 384), (12, 384), (12, 384), (12, 384), (12, 384), (12, 384), (12, 384), (12, 384), (12, 384), (12, 384), (12, 384), (12, 384), (12, 384), (12, 384), (12, 384), (12, 384), (12, 384), (12, 384), (12, 384), (12, 384), (12, 384), (12, 384), (12, 384), (12, 384), (12, 384), (12, 384), (12, 384), (12, 384), (12, 384), (12, 384), (12, 384), (12, 384), (12, 384), (12, 384), (12, 384), (12, 384), (12, 384), (12, 384), (12, 384), (12, 384), (12, 384), (12, 384), (12, 384), (12, 384), (12, 384), (12, 384), (12, 384), (12, 384), (12, 384), (12, 384), (12, 384), (12, 384), (12, 384), (12, 384), (12, 384), (12, 384), (12, 384), (12, 384), (12, 384), (12, 384), (12, 384), (12, 384), (12, 384), (12, 384), (12, 384), (12, 384), (12, 384), (12, 384), (12, 384), (12, 384), (12, 384), (12, 384), (12, 384), (12, 384), (17, 6), (12, 6), (12, 6), (12, 6), (12, 6), (12, 6), (12, 6), (17, 20), (12, 20), (12, 20), (12, 20), (12, 20), (12, 20), (12, 20), (12, 20), (12, 20), (12, 20), (12, 20), (12, 20), (12, 20), (12, 20), (12, 20), (12, 20), (12, 20), (12, 20), (12, 20), (12, 20), (12, 20), (17, 20), (12, 20), (12, 20), (12, 20), (12, 20), (12, 20), (12, 20), (12, 20), (12, 20), (12, 20), (12, 20), (12, 20), (12, 20), (12, 20), (12, 20), (12, 20), (12, 20), (12, 20), (12, 20), (12, 20), (12, 20), (17, 20), (12, 4), (12, 4), (12, 4), (12, 4), (12, 4), (12, 4), (12, 4), (12, 4), (12, 4), (12, 4), (12, 4), (12, 4), (12, 4), (12, 4), (12, 4), (12, 4), (12, 4), (12, 4), (12, 4), (12, 4), (12, 120), (12, 4), (12, 4), (18, 4), (13, 40), (13, 40), (13, 40), (13, 40), (13, 40), (12, 10), (12, 10), (17, 6), (12, 6), (12, 6), (12, 6), (12, 6), (12, 6), (12, 6)]
def NC : Nat := 91
def N0 : Nat := 320
def LAY (k : Nat) : Nat × Nat := LAYL.getD k (19, 6)
/-- where references lead, once the constructors are through -/
def PTL : List (List Int) := [[], [2, 10, 18, 26, 42, 58, 67, 71, 72, 76, 77, 78, 81, 82, 0, 0], [3, 0, 0, 0, 0], [4, 5, 6, 7, 8, 9], [], [], [], [], [], [], [11, 0, 0, 0, 0], [12, 13, 14, 15, 16, 17], [], [], [], [], [], [], [19, 0, 0, 0, 0], [20, 21, 22, 23, 24, 25], [], [], [], [], [], [], [0, 0, 27, 28, 29, 30, 31, 32, 0, 33, 34, 35, 36, 37, 0, 38, 39, 40, 41], [], [], [], [], [], [], [], [], [], [], [], [], [], [], [], [0, 0, 43, 44, 45, 46, 47, 48, 0, 49, 50, 51, 52, 53, 0, 54, 55, 56, 57], [], [], [], [], [], [], [], [], [], [], [], [], [], [], [], [26, 59, 0, 0, 60, 61, 62, 63, 0, 0, 0, 0, 0, 0, 64, 65, 0, 66], [], [], [], [], [], [], [], [], [68, 69, 70], [], [], [], [], [73, 0, 0, 0, 0, 0, 0, 74, 75], [], [], [], [], [83, 85, 87, 89], [79, 80], [], [], [], [], [0, 0, 84], [], [0, 0, 86], [], [0, 0, 88], [], [0, 0, 90], [], [0, 92, 0, 0, 0, 99, 0, 0, 0, 100, 0, 101, 102, 103, 104, 105, 106, 120, 0, 134, 135, 136, 137, 0, 0, 0, 0, 138, 0, 0, 139, 232, 239, 260, 0, 0, 281, 302, 0, 0, 0, 0, 0, 0, 303, 304, 305, 310, 311, 312, 0, 0, 313, 0, 0, 0], [93, 94, 95, 96, 97, 98], [], [], [], [], [], [], [], [], [], [], [], [], [], [107, 108, 109, 110, 111, 112, 113, 114, 115, 116, 117, 118, 119], [], [], [], [], [], [], [], [], [], [], [], [], [], [121, 122, 123, 124, 125, 126, 127, 128, 129, 130, 131, 132, 133], [], [], [], [], [], [], [], [], [], [], [], [], [], [], [], [], [], [], [140, 141, 142, 143, 144, 145, 146, 147, 148, 149, 150, 151, 152, 153, 154, 155, 156, 157, 158, 159, 160, 161, 162, 163, 164, 165, 166, 167, 168, 169, 170, 171, 172, 173, 174, 175, 176, 177, 178, 179, 180, 181, 182, 183, 184, 185, 186, 187, 188, 189, 190, 191, 192, 193, 194, 195, 196, 197, 198, 199, 200, 201, 202, 203, 204, 205, 206, 207, 208, 209, 210, 211, 212, 213, 214, 215, 216, 217, 218, 219, 220, 221, 222, 223, 224, 225, 226, 227, 228, 229, 230, 231], [], [], [], [], [], [], [], [], [], [], [], [], [], [], [], [], [], [], [], [], [], [], [], [], [], [], [], [], [], [], [], [], [], [], [], [], [], [], [], [], [], [], [], [], [], [], [], [], [], [], [], [], [], [], [], [], [], [], [], [], [], [], [], [], [], [], [], [], [], [], [], [], [], [], [], [], [], [], [], [], [], [], [], [], [], [], [], [], [], [], [], [], [233, 234, 235, 236, 237, 238], [], [], [], [], [], [], [240, 241, 242, 243, 244, 245, 246, 247, 248, 249, 250, 251, 252, 253, 254, 255, 256, 257, 258, 259], [], [], [], [], [], [], [], [], [], [], [], [], [], [], [], [], [], [], [], [], [261, 262, 263, 264, 265, 266, 267, 268, 269, 270, 271, 272, 273, 274, 275, 276, 277, 278, 279, 280], [], [], [], [], [], [], [], [], [], [], [], [], [], [], [], [], [], [], [], [], [282, 283, 284, 285, 286, 287, 288, 289, 290, 291, 292, 293, 294, 295, 296, 297, 298, 299, 300, 301], [], [], [], [], [], [], [], [], [], [], [], [], [], [], [], [], [], [], [], [], [], [], [], [306, 307, 308, 309], [], [], [], [], [], [], [], [314, 315, 316, 317, 318, 319], [], [], [], [], [], []]
def PT (k i : Nat) : Int := (PTL.getD k []).getD i 0
