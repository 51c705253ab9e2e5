/-! Names, fields, words: written by wip/whole/gen out of the Statement and the listing. -/
def zx_T : List Cond := lw_tbl.filter goodWord
theorem zx_in {w : Cond} (i : Nat) (h : lw_tbl[i]? = some w) (g : goodWord w = true) : w ∈ zx_T := List.mem_filter.mpr ⟨List.mem_of_getElem? h, g⟩
def zx_isN : Cond → Bool
  | .fieldLinkNest .. => true
  | .methodLinkNest .. => true
  | .castable .. => true
  | .declares .. => true
  | _ => false
def zx_N : List Cond := lw_tbl.filter zx_isN
theorem zx_inN {w : Cond} (i : Nat) (h : lw_tbl[i]? = some w) (g : zx_isN w = true) : w ∈ zx_N := List.mem_filter.mpr ⟨List.mem_of_getElem? h, g⟩
theorem zx_i0 {w : Cond} (i : Nat) (h : (k2_sels lw_privs)[i]? = some w) (g : goodWord w = true) : w ∈ zx_T := List.mem_filter.mpr ⟨List.mem_append_left _ (List.mem_of_getElem? h), g⟩
theorem zx_i1 {w : Cond} (i : Nat) (h : tables_1_1[i]? = some w) (g : goodWord w = true) : w ∈ zx_T := List.mem_filter.mpr ⟨List.mem_append_right _ (List.mem_append_left _ (List.mem_of_getElem? h)), g⟩
theorem zx_n1 {w : Cond} (i : Nat) (h : tables_1_1[i]? = some w) (g : zx_isN w = true) : w ∈ zx_N := List.mem_filter.mpr ⟨List.mem_append_right _ (List.mem_append_left _ (List.mem_of_getElem? h)), g⟩
theorem zx_i2 {w : Cond} (i : Nat) (h : tables_1_2[i]? = some w) (g : goodWord w = true) : w ∈ zx_T := List.mem_filter.mpr ⟨List.mem_append_right _ (List.mem_append_right _ (List.mem_append_left _ (List.mem_of_getElem? h))), g⟩
theorem zx_n2 {w : Cond} (i : Nat) (h : tables_1_2[i]? = some w) (g : zx_isN w = true) : w ∈ zx_N := List.mem_filter.mpr ⟨List.mem_append_right _ (List.mem_append_right _ (List.mem_append_left _ (List.mem_of_getElem? h))), g⟩
theorem zx_i3 {w : Cond} (i : Nat) (h : tables_1_3[i]? = some w) (g : goodWord w = true) : w ∈ zx_T := List.mem_filter.mpr ⟨List.mem_append_right _ (List.mem_append_right _ (List.mem_append_right _ (List.mem_append_left _ (List.mem_of_getElem? h)))), g⟩
theorem zx_n3 {w : Cond} (i : Nat) (h : tables_1_3[i]? = some w) (g : zx_isN w = true) : w ∈ zx_N := List.mem_filter.mpr ⟨List.mem_append_right _ (List.mem_append_right _ (List.mem_append_right _ (List.mem_append_left _ (List.mem_of_getElem? h)))), g⟩
theorem zx_i4 {w : Cond} (i : Nat) (h : tables_1_4[i]? = some w) (g : goodWord w = true) : w ∈ zx_T := List.mem_filter.mpr ⟨List.mem_append_right _ (List.mem_append_right _ (List.mem_append_right _ (List.mem_append_right _ (List.mem_append_left _ (List.mem_of_getElem? h))))), g⟩
theorem zx_n4 {w : Cond} (i : Nat) (h : tables_1_4[i]? = some w) (g : zx_isN w = true) : w ∈ zx_N := List.mem_filter.mpr ⟨List.mem_append_right _ (List.mem_append_right _ (List.mem_append_right _ (List.mem_append_right _ (List.mem_append_left _ (List.mem_of_getElem? h))))), g⟩
theorem zx_i5 {w : Cond} (i : Nat) (h : tables_1_5[i]? = some w) (g : goodWord w = true) : w ∈ zx_T := List.mem_filter.mpr ⟨List.mem_append_right _ (List.mem_append_right _ (List.mem_append_right _ (List.mem_append_right _ (List.mem_append_right _ (List.mem_append_left _ (List.mem_of_getElem? h)))))), g⟩
theorem zx_n5 {w : Cond} (i : Nat) (h : tables_1_5[i]? = some w) (g : zx_isN w = true) : w ∈ zx_N := List.mem_filter.mpr ⟨List.mem_append_right _ (List.mem_append_right _ (List.mem_append_right _ (List.mem_append_right _ (List.mem_append_right _ (List.mem_append_left _ (List.mem_of_getElem? h)))))), g⟩
theorem zx_i6 {w : Cond} (i : Nat) (h : tables_1_6[i]? = some w) (g : goodWord w = true) : w ∈ zx_T := List.mem_filter.mpr ⟨List.mem_append_right _ (List.mem_append_right _ (List.mem_append_right _ (List.mem_append_right _ (List.mem_append_right _ (List.mem_append_right _ (List.mem_of_getElem? h)))))), g⟩
theorem zx_n6 {w : Cond} (i : Nat) (h : tables_1_6[i]? = some w) (g : zx_isN w = true) : w ∈ zx_N := List.mem_filter.mpr ⟨List.mem_append_right _ (List.mem_append_right _ (List.mem_append_right _ (List.mem_append_right _ (List.mem_append_right _ (List.mem_append_right _ (List.mem_of_getElem? h)))))), g⟩
theorem zx_Gd : ∀ w ∈ zx_T, (w.onTables && w.keeps) = true ∨ ∃ ty, w = .arrayClass ty := fun w h => good_of_word (List.mem_filter.mp h).2
theorem zx_Tin : ∀ w ∈ zx_T, w ∈ lw_tbl := fun w h => (List.mem_filter.mp h).1
def zx_CQ : String := "SortedBlocks$Codes"
def F_Main : u_T := fun k => match k with
  | 0 => ("SortedBlocks", "input", "LSortedBlocks$Row;", true)
  | 1 => ("SortedBlocks", "output", "LSortedBlocks$Row;", true)
  | 2 => ("SortedBlocks", "fresh", "LSortedBlocks$Row;", true)
  | 3 => ("SortedBlocks", "bits", "LSortedBlocks$BitReader;", true)
  | 4 => ("SortedBlocks", "reader", "LSortedBlocks$BlockReader;", true)
  | 5 => ("SortedBlocks", "maker", "LSortedBlocks$BlockMaker;", true)
  | 6 => ("SortedBlocks", "writer", "LSortedBlocks$BlockWriter;", true)
  | 7 => ("SortedBlocks", "told", "LSortedBlocks$Block;", false)
  | 8 => ("SortedBlocks", "next", "LSortedBlocks$Block;", false)
  | 9 => ("SortedBlocks", "blockCount", "I", false)
  | 10 => ("SortedBlocks", "readCount", "I", false)
  | _ => ("SortedBlocks", "faultAt", "I", false)
def t_Main : Nat → FieldType := fun k => match k with
  | 0 => .object "SortedBlocks$Row"
  | 1 => .object "SortedBlocks$Row"
  | 2 => .object "SortedBlocks$Row"
  | 3 => .object "SortedBlocks$BitReader"
  | 4 => .object "SortedBlocks$BlockReader"
  | 5 => .object "SortedBlocks$BlockMaker"
  | 6 => .object "SortedBlocks$BlockWriter"
  | 7 => .object "SortedBlocks$Block"
  | 8 => .object "SortedBlocks$Block"
  | 9 => .int
  | 10 => .int
  | _ => .int
def F_Mod : u_T := fun k => match k with
  | 0 => ("SortedBlocksModel", "thrown", "I", false)
  | 1 => ("SortedBlocksModel", "inSize", "I", false)
  | 2 => ("SortedBlocksModel", "in", "[I", true)
  | 3 => ("SortedBlocksModel", "outSize", "I", false)
  | 4 => ("SortedBlocksModel", "outRow", "[I", true)
  | 5 => ("SortedBlocksModel", "newSize", "I", false)
  | 6 => ("SortedBlocksModel", "fresh", "[I", true)
  | 7 => ("SortedBlocksModel", "pos", "I", false)
  | 8 => ("SortedBlocksModel", "fault", "I", false)
  | 9 => ("SortedBlocksModel", "faultAt", "I", false)
  | 10 => ("SortedBlocksModel", "toldAt", "I", false)
  | 11 => ("SortedBlocksModel", "room", "I", false)
  | 12 => ("SortedBlocksModel", "bytes", "I", false)
  | 13 => ("SortedBlocksModel", "plain", "[I", true)
  | 14 => ("SortedBlocksModel", "shorts", "I", false)
  | 15 => ("SortedBlocksModel", "shortRow", "[I", true)
  | 16 => ("SortedBlocksModel", "column", "[I", true)
  | 17 => ("SortedBlocksModel", "symbolCount", "I", false)
  | 18 => ("SortedBlocksModel", "symbols", "[I", true)
  | 19 => ("SortedBlocksModel", "checkNow", "I", false)
  | 20 => ("SortedBlocksModel", "checkAt", "I", false)
  | 21 => ("SortedBlocksModel", "originNow", "I", false)
  | 22 => ("SortedBlocksModel", "kinds", "I", false)
  | 23 => ("SortedBlocksModel", "used", "[Z", true)
  | 24 => ("SortedBlocksModel", "list", "[I", true)
  | 25 => ("SortedBlocksModel", "tables", "I", false)
  | 26 => ("SortedBlocksModel", "lengths", "[I", true)
  | 27 => ("SortedBlocksModel", "codes", "[I", true)
  | 28 => ("SortedBlocksModel", "groups", "I", false)
  | 29 => ("SortedBlocksModel", "picks", "[I", true)
  | 30 => ("SortedBlocksModel", "order", "[I", true)
  | 31 => ("SortedBlocksModel", "places", "[I", true)
  | 32 => ("SortedBlocksModel", "weights", "[I", true)
  | 33 => ("SortedBlocksModel", "into", "[I", true)
  | 34 => ("SortedBlocksModel", "blockCount", "I", false)
  | 35 => ("SortedBlocksModel", "lastOrigin", "I", false)
  | 36 => ("SortedBlocksModel", "lastShorts", "I", false)
  | 37 => ("SortedBlocksModel", "lastSymbols", "I", false)
  | 38 => ("SortedBlocksModel", "lastTables", "I", false)
  | 39 => ("SortedBlocksModel", "lastGroups", "I", false)
  | 40 => ("SortedBlocksModel", "lastKinds", "I", false)
  | 41 => ("SortedBlocksModel", "lastCheck", "I", false)
  | 42 => ("SortedBlocksModel", "lastColumn", "[I", true)
  | 43 => ("SortedBlocksModel", "lastSymbolRow", "[I", true)
  | 44 => ("SortedBlocksModel", "lastLengths", "[I", true)
  | _ => ("SortedBlocksModel", "lastPicks", "[I", true)
def t_Mod : Nat → FieldType := fun k => match k with
  | 0 => .int
  | 1 => .int
  | 2 => .array .int
  | 3 => .int
  | 4 => .array .int
  | 5 => .int
  | 6 => .array .int
  | 7 => .int
  | 8 => .int
  | 9 => .int
  | 10 => .int
  | 11 => .int
  | 12 => .int
  | 13 => .array .int
  | 14 => .int
  | 15 => .array .int
  | 16 => .array .int
  | 17 => .int
  | 18 => .array .int
  | 19 => .int
  | 20 => .int
  | 21 => .int
  | 22 => .int
  | 23 => .array .boolean
  | 24 => .array .int
  | 25 => .int
  | 26 => .array .int
  | 27 => .array .int
  | 28 => .int
  | 29 => .array .int
  | 30 => .array .int
  | 31 => .array .int
  | 32 => .array .int
  | 33 => .array .int
  | 34 => .int
  | 35 => .int
  | 36 => .int
  | 37 => .int
  | 38 => .int
  | 39 => .int
  | 40 => .int
  | 41 => .int
  | 42 => .array .int
  | 43 => .array .int
  | 44 => .array .int
  | _ => .array .int
def F_BitReader : u_T := fun k => match k with
  | 0 => ("SortedBlocks$BitReader", "row", "LSortedBlocks$Row;", true)
  | 1 => ("SortedBlocks$BitReader", "place", "I", false)
  | _ => ("SortedBlocks$BitReader", "began", "I", false)
def t_BitReader : Nat → FieldType := fun k => match k with
  | 0 => .object "SortedBlocks$Row"
  | 1 => .int
  | _ => .int
def F_BitWriter : u_T := fun k => match k with
  | 0 => ("SortedBlocks$BitWriter", "row", "LSortedBlocks$Row;", true)
  | 1 => ("SortedBlocks$BitWriter", "held", "I", false)
  | _ => ("SortedBlocks$BitWriter", "heldBits", "I", false)
def t_BitWriter : Nat → FieldType := fun k => match k with
  | 0 => .object "SortedBlocks$Row"
  | 1 => .int
  | _ => .int
def F_Block : u_T := fun k => match k with
  | 0 => ("SortedBlocks$Block", "check", "I", false)
  | 1 => ("SortedBlocks$Block", "origin", "I", false)
  | 2 => ("SortedBlocks$Block", "count", "I", false)
  | 3 => ("SortedBlocks$Block", "shortened", "[I", true)
  | 4 => ("SortedBlocks$Block", "column", "[I", true)
  | 5 => ("SortedBlocks$Block", "kinds", "I", false)
  | 6 => ("SortedBlocks$Block", "kindList", "[I", true)
  | 7 => ("SortedBlocks$Block", "symbolCount", "I", false)
  | 8 => ("SortedBlocks$Block", "symbols", "[I", true)
  | 9 => ("SortedBlocks$Block", "tables", "I", false)
  | 10 => ("SortedBlocks$Block", "lengths", "[[I", true)
  | 11 => ("SortedBlocks$Block", "groups", "I", false)
  | _ => ("SortedBlocks$Block", "picks", "[I", true)
def t_Block : Nat → FieldType := fun k => match k with
  | 0 => .int
  | 1 => .int
  | 2 => .int
  | 3 => .array .int
  | 4 => .array .int
  | 5 => .int
  | 6 => .array .int
  | 7 => .int
  | 8 => .array .int
  | 9 => .int
  | 10 => .array (.array .int)
  | 11 => .int
  | _ => .array .int
def F_BlockMaker : u_T := fun k => match k with
  | 0 => ("SortedBlocks$BlockMaker", "order", "[I", true)
  | 1 => ("SortedBlocks$BlockMaker", "present", "[I", true)
  | 2 => ("SortedBlocks$BlockMaker", "list", "LSortedBlocks$MoveList;", true)
  | _ => ("SortedBlocks$BlockMaker", "picker", "LSortedBlocks$Picker;", true)
def t_BlockMaker : Nat → FieldType := fun k => match k with
  | 0 => .array .int
  | 1 => .array .int
  | 2 => .object "SortedBlocks$MoveList"
  | _ => .object "SortedBlocks$Picker"
def F_BlockReader : u_T := fun k => match k with
  | 0 => ("SortedBlocks$BlockReader", "bits", "LSortedBlocks$BitReader;", true)
  | 1 => ("SortedBlocks$BlockReader", "list", "LSortedBlocks$MoveList;", true)
  | 2 => ("SortedBlocks$BlockReader", "codes", "[LSortedBlocks$Codes;", true)
  | 3 => ("SortedBlocks$BlockReader", "follower", "[I", true)
  | 4 => ("SortedBlocks$BlockReader", "places", "[I", true)
  | _ => ("SortedBlocks$BlockReader", "digit", "I", false)
def t_BlockReader : Nat → FieldType := fun k => match k with
  | 0 => .object "SortedBlocks$BitReader"
  | 1 => .object "SortedBlocks$MoveList"
  | 2 => .array (.object "SortedBlocks$Codes")
  | 3 => .array .int
  | 4 => .array .int
  | _ => .int
def F_BlockWriter : u_T := fun k => match k with
  | 0 => ("SortedBlocks$BlockWriter", "bits", "LSortedBlocks$BitWriter;", true)
  | 1 => ("SortedBlocks$BlockWriter", "maps", "[I", true)
  | 2 => ("SortedBlocks$BlockWriter", "list", "LSortedBlocks$MoveList;", true)
  | _ => ("SortedBlocks$BlockWriter", "codes", "[LSortedBlocks$Codes;", true)
def t_BlockWriter : Nat → FieldType := fun k => match k with
  | 0 => .object "SortedBlocks$BitWriter"
  | 1 => .array .int
  | 2 => .object "SortedBlocks$MoveList"
  | _ => .array (.object "SortedBlocks$Codes")
def F_Codes : u_T := fun k => match k with
  | 0 => ("SortedBlocks$Codes", "first", "[I", true)
  | 1 => ("SortedBlocks$Codes", "many", "[I", true)
  | 2 => ("SortedBlocks$Codes", "start", "[I", true)
  | 3 => ("SortedBlocks$Codes", "order", "[I", true)
  | _ => ("SortedBlocks$Codes", "codes", "[I", true)
def t_Codes : Nat → FieldType := fun k => match k with
  | 0 => .array .int
  | 1 => .array .int
  | 2 => .array .int
  | 3 => .array .int
  | _ => .array .int
def F_MoveList : u_T := fun k => match k with
  | 0 => ("SortedBlocks$MoveList", "items", "[I", true)
  | _ => ("SortedBlocks$MoveList", "count", "I", false)
def t_MoveList : Nat → FieldType := fun k => match k with
  | 0 => .array .int
  | _ => .int
def F_Picker : u_T := fun k => match k with
  | 0 => ("SortedBlocks$Picker", "trees", "LSortedBlocks$Trees;", true)
  | _ => ("SortedBlocks$Picker", "weights", "[I", true)
def t_Picker : Nat → FieldType := fun k => match k with
  | 0 => .object "SortedBlocks$Trees"
  | _ => .array .int
def F_Row : u_T := fun k => match k with
  | 0 => ("SortedBlocks$Row", "items", "[I", true)
  | _ => ("SortedBlocks$Row", "count", "I", false)
def t_Row : Nat → FieldType := fun k => match k with
  | 0 => .array .int
  | _ => .int
def F_Trees : u_T := fun k => match k with
  | 0 => ("SortedBlocks$Trees", "weight", "[I", true)
  | 1 => ("SortedBlocks$Trees", "parent", "[I", true)
  | 2 => ("SortedBlocks$Trees", "depth", "[I", true)
  | 3 => ("SortedBlocks$Trees", "symbolsByWeight", "[I", true)
  | 4 => ("SortedBlocks$Trees", "symbolCount", "I", false)
  | 5 => ("SortedBlocks$Trees", "nextSymbol", "I", false)
  | _ => ("SortedBlocks$Trees", "nextTree", "I", false)
def t_Trees : Nat → FieldType := fun k => match k with
  | 0 => .array .int
  | 1 => .array .int
  | 2 => .array .int
  | 3 => .array .int
  | 4 => .int
  | 5 => .int
  | _ => .int
abbrev zx_cl : List vw_C := [("SortedBlocks", F_Main, 12), ("SortedBlocksModel", F_Mod, 46), ("SortedBlocks$BitReader", F_BitReader, 3), ("SortedBlocks$BitWriter", F_BitWriter, 3), ("SortedBlocks$Block", F_Block, 13), ("SortedBlocks$BlockMaker", F_BlockMaker, 4), ("SortedBlocks$BlockReader", F_BlockReader, 6), ("SortedBlocks$BlockWriter", F_BlockWriter, 4), ("SortedBlocks$Codes", F_Codes, 5), ("SortedBlocks$MoveList", F_MoveList, 2), ("SortedBlocks$Picker", F_Picker, 2), ("SortedBlocks$Row", F_Row, 2), ("SortedBlocks$Trees", F_Trees, 7)]
def zx_ft : Nat → List Bool := fun k => match k with
  | 0 => [true, true, true, true, true, true, true, true, true, false, false, false]
  | 1 => [false, false, true, false, true, false, true, false, false, false, false, false, false, true, false, true, true, false, true, false, false, false, false, true, true, false, true, true, false, true, true, true, true, true, false, false, false, false, false, false, false, false, true, true, true, true]
  | 2 => [true, false, false]
  | 3 => [true, false, false]
  | 4 => [false, false, false, true, true, false, true, false, true, false, true, false, true]
  | 5 => [true, true, true, true]
  | 6 => [true, true, true, true, true, false]
  | 7 => [true, true, true, true]
  | 8 => [true, true, true, true, true]
  | 9 => [true, false]
  | 10 => [true, true]
  | 11 => [true, false]
  | 12 => [true, true, true, true, false, false, false]
  | _ => []
theorem cw_Main : ∀ w ∈ u_ws "SortedBlocks" F_Main 12, w ∈ zx_T := by decide +kernel
theorem ct_Main : ∀ k, k < 12 → parseFieldDescriptor (F_Main k).2.2.1 = some (t_Main k) := by decide +kernel
theorem cn_Main : ∀ a, a < 12 → ∀ b, b < 12 → a ≠ b → (F_Main a).2.1 ≠ (F_Main b).2.1 := by decide +kernel
theorem cw_Mod : ∀ w ∈ u_ws "SortedBlocksModel" F_Mod 46, w ∈ zx_T := by decide +kernel
theorem ct_Mod : ∀ k, k < 46 → parseFieldDescriptor (F_Mod k).2.2.1 = some (t_Mod k) := by decide +kernel
theorem cn_Mod : ∀ a, a < 46 → ∀ b, b < 46 → a ≠ b → (F_Mod a).2.1 ≠ (F_Mod b).2.1 := by decide +kernel
theorem cw_BitReader : ∀ w ∈ u_ws "SortedBlocks$BitReader" F_BitReader 3, w ∈ zx_T := by decide +kernel
theorem ct_BitReader : ∀ k, k < 3 → parseFieldDescriptor (F_BitReader k).2.2.1 = some (t_BitReader k) := by decide +kernel
theorem cn_BitReader : ∀ a, a < 3 → ∀ b, b < 3 → a ≠ b → (F_BitReader a).2.1 ≠ (F_BitReader b).2.1 := by decide +kernel
theorem cw_BitWriter : ∀ w ∈ u_ws "SortedBlocks$BitWriter" F_BitWriter 3, w ∈ zx_T := by decide +kernel
theorem ct_BitWriter : ∀ k, k < 3 → parseFieldDescriptor (F_BitWriter k).2.2.1 = some (t_BitWriter k) := by decide +kernel
theorem cn_BitWriter : ∀ a, a < 3 → ∀ b, b < 3 → a ≠ b → (F_BitWriter a).2.1 ≠ (F_BitWriter b).2.1 := by decide +kernel
theorem cw_Block : ∀ w ∈ u_ws "SortedBlocks$Block" F_Block 13, w ∈ zx_T := by decide +kernel
theorem ct_Block : ∀ k, k < 13 → parseFieldDescriptor (F_Block k).2.2.1 = some (t_Block k) := by decide +kernel
theorem cn_Block : ∀ a, a < 13 → ∀ b, b < 13 → a ≠ b → (F_Block a).2.1 ≠ (F_Block b).2.1 := by decide +kernel
theorem cw_BlockMaker : ∀ w ∈ u_ws "SortedBlocks$BlockMaker" F_BlockMaker 4, w ∈ zx_T := by decide +kernel
theorem ct_BlockMaker : ∀ k, k < 4 → parseFieldDescriptor (F_BlockMaker k).2.2.1 = some (t_BlockMaker k) := by decide +kernel
theorem cn_BlockMaker : ∀ a, a < 4 → ∀ b, b < 4 → a ≠ b → (F_BlockMaker a).2.1 ≠ (F_BlockMaker b).2.1 := by decide +kernel
theorem cw_BlockReader : ∀ w ∈ u_ws "SortedBlocks$BlockReader" F_BlockReader 6, w ∈ zx_T := by decide +kernel
theorem ct_BlockReader : ∀ k, k < 6 → parseFieldDescriptor (F_BlockReader k).2.2.1 = some (t_BlockReader k) := by decide +kernel
theorem cn_BlockReader : ∀ a, a < 6 → ∀ b, b < 6 → a ≠ b → (F_BlockReader a).2.1 ≠ (F_BlockReader b).2.1 := by decide +kernel
theorem cw_BlockWriter : ∀ w ∈ u_ws "SortedBlocks$BlockWriter" F_BlockWriter 4, w ∈ zx_T := by decide +kernel
theorem ct_BlockWriter : ∀ k, k < 4 → parseFieldDescriptor (F_BlockWriter k).2.2.1 = some (t_BlockWriter k) := by decide +kernel
theorem cn_BlockWriter : ∀ a, a < 4 → ∀ b, b < 4 → a ≠ b → (F_BlockWriter a).2.1 ≠ (F_BlockWriter b).2.1 := by decide +kernel
theorem cw_Codes : ∀ w ∈ u_ws "SortedBlocks$Codes" F_Codes 5, w ∈ zx_T := by decide +kernel
theorem ct_Codes : ∀ k, k < 5 → parseFieldDescriptor (F_Codes k).2.2.1 = some (t_Codes k) := by decide +kernel
theorem cn_Codes : ∀ a, a < 5 → ∀ b, b < 5 → a ≠ b → (F_Codes a).2.1 ≠ (F_Codes b).2.1 := by decide +kernel
theorem cw_MoveList : ∀ w ∈ u_ws "SortedBlocks$MoveList" F_MoveList 2, w ∈ zx_T := by decide +kernel
theorem ct_MoveList : ∀ k, k < 2 → parseFieldDescriptor (F_MoveList k).2.2.1 = some (t_MoveList k) := by decide +kernel
theorem cn_MoveList : ∀ a, a < 2 → ∀ b, b < 2 → a ≠ b → (F_MoveList a).2.1 ≠ (F_MoveList b).2.1 := by decide +kernel
theorem cw_Picker : ∀ w ∈ u_ws "SortedBlocks$Picker" F_Picker 2, w ∈ zx_T := by decide +kernel
theorem ct_Picker : ∀ k, k < 2 → parseFieldDescriptor (F_Picker k).2.2.1 = some (t_Picker k) := by decide +kernel
theorem cn_Picker : ∀ a, a < 2 → ∀ b, b < 2 → a ≠ b → (F_Picker a).2.1 ≠ (F_Picker b).2.1 := by decide +kernel
theorem cw_Row : ∀ w ∈ u_ws "SortedBlocks$Row" F_Row 2, w ∈ zx_T := by decide +kernel
theorem ct_Row : ∀ k, k < 2 → parseFieldDescriptor (F_Row k).2.2.1 = some (t_Row k) := by decide +kernel
theorem cn_Row : ∀ a, a < 2 → ∀ b, b < 2 → a ≠ b → (F_Row a).2.1 ≠ (F_Row b).2.1 := by decide +kernel
theorem cw_Trees : ∀ w ∈ u_ws "SortedBlocks$Trees" F_Trees 7, w ∈ zx_T := by decide +kernel
theorem ct_Trees : ∀ k, k < 7 → parseFieldDescriptor (F_Trees k).2.2.1 = some (t_Trees k) := by decide +kernel
theorem cn_Trees : ∀ a, a < 7 → ∀ b, b < 7 → a ≠ b → (F_Trees a).2.1 ≠ (F_Trees b).2.1 := by decide +kernel
