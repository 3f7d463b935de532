-- NAMES, LAYOUT: the store of a run is (ints, longs) by object and slot; objects have fixed numbers
def GW : List Cond := lw_tbl.filter goodWord
theorem gw_m {w : Cond} (i : Nat) (h : lw_tbl[i]? = some w) (hg : goodWord w = true) : w ∈ GW := List.mem_filter.mpr ⟨List.mem_of_getElem? h, hg⟩
theorem gw_g {w : Cond} (h : w ∈ GW) : goodWord w = true := (List.mem_filter.mp h).2
theorem gw_t {w : Cond} (h : w ∈ GW) : w ∈ lw_tbl := (List.mem_filter.mp h).1
abbrev ZMI : Type := MethodName × ByteArray × Nat × Option FieldType
def z_ws (y : ZMI) : List Cond := .code y.1 y.2.1 y.2.2.1 y.2.2.2 :: GW
theorem z_wsi {w : Cond} (h : w ∈ GW) : w ∈ GW := h
theorem z_wsm {y : ZMI} {w : Cond} (h : w ∈ GW) : w ∈ z_ws y := List.mem_cons_of_mem _ h
def z_R0 : String := "BesideAnother$Book"
def z_F0 : u_T := fun k => match k with
  | 0 => ("BesideAnother$Book", "first", "LBesideAnother$Expression;", true)
  | 1 => ("BesideAnother$Book", "second", "LBesideAnother$Expression;", true)
  | 2 => ("BesideAnother$Book", "wanted", "I", false)
  | 3 => ("BesideAnother$Book", "limit", "I", false)
  | 4 => ("BesideAnother$Book", "opened", "I", false)
  | _ => ("BesideAnother$Book", "readBy", "I", false)
def z_y0 : Nat → FieldType := fun k => match k with
  | 0 => .object "BesideAnother$Expression"
  | 1 => .object "BesideAnother$Expression"
  | 2 => .int
  | 3 => .int
  | 4 => .int
  | _ => .int
theorem z_nm0 : ∀ a, a < 6 → ∀ b, b < 6 → a ≠ b → (z_F0 a).2.1 ≠ (z_F0 b).2.1 := by decide +kernel
theorem z_ty0 : ∀ k, k < 6 → parseFieldDescriptor (z_F0 k).2.2.1 = some (z_y0 k) := by decide +kernel
def z_R1 : String := "BesideAnother$Expression"
def z_F1 : u_T := fun k => match k with
  | 0 => ("BesideAnother$Expression", "code", "[I", true)
  | 1 => ("BesideAnother$Expression", "stack", "[I", true)
  | _ => ("BesideAnother$Expression", "size", "I", false)
def z_y1 : Nat → FieldType := fun k => match k with
  | 0 => .array (.int)
  | 1 => .array (.int)
  | _ => .int
theorem z_nm1 : ∀ a, a < 3 → ∀ b, b < 3 → a ≠ b → (z_F1 a).2.1 ≠ (z_F1 b).2.1 := by decide +kernel
theorem z_ty1 : ∀ k, k < 3 → parseFieldDescriptor (z_F1 k).2.2.1 = some (z_y1 k) := by decide +kernel
def z_R2 : String := "BesideAnother$Kept"
def z_F2 : u_T := fun k => match k with
  | 0 => ("BesideAnother$Kept", "used", "Z", false)
  | 1 => ("BesideAnother$Kept", "state", "J", false)
  | 2 => ("BesideAnother$Kept", "hours", "I", false)
  | 3 => ("BesideAnother$Kept", "logged", "I", false)
  | 4 => ("BesideAnother$Kept", "readers", "I", false)
  | 5 => ("BesideAnother$Kept", "log", "[I", true)
  | 6 => ("BesideAnother$Kept", "opened", "[I", true)
  | 7 => ("BesideAnother$Kept", "tables", "[I", true)
  | _ => ("BesideAnother$Kept", "read", "[I", true)
def z_y2 : Nat → FieldType := fun k => match k with
  | 0 => .boolean
  | 1 => .long
  | 2 => .int
  | 3 => .int
  | 4 => .int
  | 5 => .array (.int)
  | 6 => .array (.int)
  | 7 => .array (.int)
  | _ => .array (.int)
theorem z_nm2 : ∀ a, a < 9 → ∀ b, b < 9 → a ≠ b → (z_F2 a).2.1 ≠ (z_F2 b).2.1 := by decide +kernel
theorem z_ty2 : ∀ k, k < 9 → parseFieldDescriptor (z_F2 k).2.2.1 = some (z_y2 k) := by decide +kernel
def z_R3 : String := "BesideAnother$Reader"
def z_F3 : u_T := fun k => match k with
  | 0 => ("BesideAnother$Reader", "told", "I", false)
  | 1 => ("BesideAnother$Reader", "table", "I", false)
  | 2 => ("BesideAnother$Reader", "list", "I", false)
  | _ => ("BesideAnother$Reader", "read", "I", false)
def z_y3 : Nat → FieldType := fun k => match k with
  | 0 => .int
  | 1 => .int
  | 2 => .int
  | _ => .int
theorem z_nm3 : ∀ a, a < 4 → ∀ b, b < 4 → a ≠ b → (z_F3 a).2.1 ≠ (z_F3 b).2.1 := by decide +kernel
theorem z_ty3 : ∀ k, k < 4 → parseFieldDescriptor (z_F3 k).2.2.1 = some (z_y3 k) := by decide +kernel
def z_R4 : String := "BesideAnother$Search"
def z_F4 : u_T := fun k => match k with
  | 0 => ("BesideAnother$Search", "states", "[J", true)
  | 1 => ("BesideAnother$Search", "from", "[I", true)
  | 2 => ("BesideAnother$Search", "acts", "[I", true)
  | 3 => ("BesideAnother$Search", "depth", "[I", true)
  | 4 => ("BesideAnother$Search", "can", "[I", true)
  | 5 => ("BesideAnother$Search", "size", "I", false)
  | 6 => ("BesideAnother$Search", "slots", "[I", true)
  | 7 => ("BesideAnother$Search", "slotBy", "[I", true)
  | 8 => ("BesideAnother$Search", "firstEdge", "[I", true)
  | _ => ("BesideAnother$Search", "edges", "[I", true)
def z_y4 : Nat → FieldType := fun k => match k with
  | 0 => .array (.long)
  | 1 => .array (.int)
  | 2 => .array (.int)
  | 3 => .array (.int)
  | 4 => .array (.int)
  | 5 => .int
  | 6 => .array (.int)
  | 7 => .array (.int)
  | 8 => .array (.int)
  | _ => .array (.int)
theorem z_nm4 : ∀ a, a < 10 → ∀ b, b < 10 → a ≠ b → (z_F4 a).2.1 ≠ (z_F4 b).2.1 := by decide +kernel
theorem z_ty4 : ∀ k, k < 10 → parseFieldDescriptor (z_F4 k).2.2.1 = some (z_y4 k) := by decide +kernel
def z_R5 : String := "BesideAnother$Survey"
def z_F5 : u_T := fun k => match k with
  | 0 => ("BesideAnother$Survey", "inAll", "I", false)
  | 1 => ("BesideAnother$Survey", "inAny", "I", false)
  | 2 => ("BesideAnother$Survey", "fewest", "I", false)
  | 3 => ("BesideAnother$Survey", "least", "I", false)
  | _ => ("BesideAnother$Survey", "many", "I", false)
def z_y5 : Nat → FieldType := fun k => match k with
  | 0 => .int
  | 1 => .int
  | 2 => .int
  | 3 => .int
  | _ => .int
theorem z_nm5 : ∀ a, a < 5 → ∀ b, b < 5 → a ≠ b → (z_F5 a).2.1 ≠ (z_F5 b).2.1 := by decide +kernel
theorem z_ty5 : ∀ k, k < 5 → parseFieldDescriptor (z_F5 k).2.2.1 = some (z_y5 k) := by decide +kernel
def z_R6 : String := "BesideAnother$Tables"
def z_F6 : u_T := fun k => match k with
  | 0 => ("BesideAnother$Tables", "books", "[LBesideAnother$Book;", true)
  | 1 => ("BesideAnother$Tables", "room", "[I", true)
  | 2 => ("BesideAnother$Tables", "count", "I", false)
  | 3 => ("BesideAnother$Tables", "may", "[I", true)
  | 4 => ("BesideAnother$Tables", "known", "[I", true)
  | _ => ("BesideAnother$Tables", "stamp", "I", false)
def z_y6 : Nat → FieldType := fun k => match k with
  | 0 => .array (.object "BesideAnother$Book")
  | 1 => .array (.int)
  | 2 => .int
  | 3 => .array (.int)
  | 4 => .array (.int)
  | _ => .int
theorem z_nm6 : ∀ a, a < 6 → ∀ b, b < 6 → a ≠ b → (z_F6 a).2.1 ≠ (z_F6 b).2.1 := by decide +kernel
theorem z_ty6 : ∀ k, k < 6 → parseFieldDescriptor (z_F6 k).2.2.1 = some (z_y6 k) := by decide +kernel
def z_R7 : String := "BesideAnother$Text"
def z_F7 : u_T := fun k => match k with
  | 0 => ("BesideAnother$Text", "first", "LBesideAnother$Expression;", true)
  | 1 => ("BesideAnother$Text", "second", "LBesideAnother$Expression;", true)
  | 2 => ("BesideAnother$Text", "wanted", "I", false)
  | 3 => ("BesideAnother$Text", "size", "I", false)
  | 4 => ("BesideAnother$Text", "signs", "[I", true)
  | 5 => ("BesideAnother$Text", "into", "LBesideAnother$Expression;", false)
  | 6 => ("BesideAnother$Text", "at", "I", false)
  | _ => ("BesideAnother$Text", "end", "I", false)
def z_y7 : Nat → FieldType := fun k => match k with
  | 0 => .object "BesideAnother$Expression"
  | 1 => .object "BesideAnother$Expression"
  | 2 => .int
  | 3 => .int
  | 4 => .array (.int)
  | 5 => .object "BesideAnother$Expression"
  | 6 => .int
  | _ => .int
theorem z_nm7 : ∀ a, a < 8 → ∀ b, b < 8 → a ≠ b → (z_F7 a).2.1 ≠ (z_F7 b).2.1 := by decide +kernel
theorem z_ty7 : ∀ k, k < 8 → parseFieldDescriptor (z_F7 k).2.2.1 = some (z_y7 k) := by decide +kernel
def z_R8 : String := "BesideAnother"
def z_F8 : u_T := fun k => match k with
  | 0 => ("BesideAnother", "text", "LBesideAnother$Text;", true)
  | 1 => ("BesideAnother", "tables", "LBesideAnother$Tables;", true)
  | 2 => ("BesideAnother", "search", "LBesideAnother$Search;", true)
  | 3 => ("BesideAnother", "survey", "LBesideAnother$Survey;", true)
  | 4 => ("BesideAnother", "rule", "LBesideAnother$Expression;", true)
  | 5 => ("BesideAnother", "readers", "[LBesideAnother$Reader;", true)
  | 6 => ("BesideAnother", "kept", "[LBesideAnother$Kept;", true)
  | 7 => ("BesideAnother", "readerCount", "I", false)
  | 8 => ("BesideAnother", "now", "J", false)
  | 9 => ("BesideAnother", "hourCount", "I", false)
  | 10 => ("BesideAnother", "log", "[I", true)
  | 11 => ("BesideAnother", "logged", "I", false)
  | 12 => ("BesideAnother", "row", "[I", true)
  | 13 => ("BesideAnother", "rowSize", "I", false)
  | 14 => ("BesideAnother", "line", "[I", true)
  | 15 => ("BesideAnother", "worths", "[I", true)
  | 16 => ("BesideAnother", "tally", "[I", true)
  | 17 => ("BesideAnother", "links", "[I", true)
  | _ => ("BesideAnother", "near", "[I", true)
def z_y8 : Nat → FieldType := fun k => match k with
  | 0 => .object "BesideAnother$Text"
  | 1 => .object "BesideAnother$Tables"
  | 2 => .object "BesideAnother$Search"
  | 3 => .object "BesideAnother$Survey"
  | 4 => .object "BesideAnother$Expression"
  | 5 => .array (.object "BesideAnother$Reader")
  | 6 => .array (.object "BesideAnother$Kept")
  | 7 => .int
  | 8 => .long
  | 9 => .int
  | 10 => .array (.int)
  | 11 => .int
  | 12 => .array (.int)
  | 13 => .int
  | 14 => .array (.int)
  | 15 => .array (.int)
  | 16 => .array (.int)
  | 17 => .array (.int)
  | _ => .array (.int)
theorem z_nm8 : ∀ a, a < 19 → ∀ b, b < 19 → a ≠ b → (z_F8 a).2.1 ≠ (z_F8 b).2.1 := by decide +kernel
theorem z_ty8 : ∀ k, k < 19 → parseFieldDescriptor (z_F8 k).2.2.1 = some (z_y8 k) := by decide +kernel
def z_R9 : String := "BesideAnotherModel"
def z_F9 : u_T := fun k => match k with
  | 0 => ("BesideAnotherModel", "thrown", "I", false)
  | 1 => ("BesideAnotherModel", "rows", "I", false)
  | 2 => ("BesideAnotherModel", "row", "[I", true)
  | 3 => ("BesideAnotherModel", "books", "I", false)
  | 4 => ("BesideAnotherModel", "limit", "[I", true)
  | 5 => ("BesideAnotherModel", "opened", "[I", true)
  | 6 => ("BesideAnotherModel", "secondBy", "[I", true)
  | 7 => ("BesideAnotherModel", "room", "[I", true)
  | 8 => ("BesideAnotherModel", "on", "[I", true)
  | 9 => ("BesideAnotherModel", "readers", "I", false)
  | 10 => ("BesideAnotherModel", "sits", "[I", true)
  | 11 => ("BesideAnotherModel", "satFirst", "[I", true)
  | 12 => ("BesideAnotherModel", "list", "[I", true)
  | 13 => ("BesideAnotherModel", "done", "[I", true)
  | 14 => ("BesideAnotherModel", "code", "[I", true)
  | 15 => ("BesideAnotherModel", "codes", "[I", true)
  | 16 => ("BesideAnotherModel", "stack", "[I", true)
  | 17 => ("BesideAnotherModel", "tape", "[I", true)
  | 18 => ("BesideAnotherModel", "taped", "I", false)
  | 19 => ("BesideAnotherModel", "at", "I", false)
  | 20 => ("BesideAnotherModel", "to", "I", false)
  | 21 => ("BesideAnotherModel", "nest", "I", false)
  | 22 => ("BesideAnotherModel", "into", "I", false)
  | 23 => ("BesideAnotherModel", "byOn", "[I", true)
  | 24 => ("BesideAnotherModel", "byOpened", "[I", true)
  | 25 => ("BesideAnotherModel", "inOrder", "[I", true)
  | 26 => ("BesideAnotherModel", "rated", "[I", true)
  | 27 => ("BesideAnotherModel", "logs", "I", false)
  | 28 => ("BesideAnotherModel", "logged", "[I", true)
  | 29 => ("BesideAnotherModel", "hours", "I", false)
  | 30 => ("BesideAnotherModel", "leads", "[I", true)
  | 31 => ("BesideAnotherModel", "way", "[I", true)
  | 32 => ("BesideAnotherModel", "needed", "I", false)
  | 33 => ("BesideAnotherModel", "everWith", "I", false)
  | 34 => ("BesideAnotherModel", "leastSet", "I", false)
  | 35 => ("BesideAnotherModel", "leastMany", "I", false)
  | 36 => ("BesideAnotherModel", "next", "[I", true)
  | 37 => ("BesideAnotherModel", "deep", "[I", true)
  | 38 => ("BesideAnotherModel", "from", "[I", true)
  | 39 => ("BesideAnotherModel", "queue", "[I", true)
  | 40 => ("BesideAnotherModel", "queued", "I", false)
  | 41 => ("BesideAnotherModel", "acts", "[I", true)
  | 42 => ("BesideAnotherModel", "ever", "[I", true)
  | 43 => ("BesideAnotherModel", "found", "[J", true)
  | 44 => ("BesideAnotherModel", "depth", "[I", true)
  | 45 => ("BesideAnotherModel", "foundFrom", "[I", true)
  | 46 => ("BesideAnotherModel", "foundBy", "[I", true)
  | 47 => ("BesideAnotherModel", "leadsTo", "[I", true)
  | 48 => ("BesideAnotherModel", "slots", "[I", true)
  | 49 => ("BesideAnotherModel", "foundMany", "I", false)
  | 50 => ("BesideAnotherModel", "can", "[I", true)
  | 51 => ("BesideAnotherModel", "isKept", "[Z", true)
  | _ => ("BesideAnotherModel", "kept", "[I", true)
def z_y9 : Nat → FieldType := fun k => match k with
  | 0 => .int
  | 1 => .int
  | 2 => .array (.int)
  | 3 => .int
  | 4 => .array (.int)
  | 5 => .array (.int)
  | 6 => .array (.int)
  | 7 => .array (.int)
  | 8 => .array (.int)
  | 9 => .int
  | 10 => .array (.int)
  | 11 => .array (.int)
  | 12 => .array (.int)
  | 13 => .array (.int)
  | 14 => .array (.int)
  | 15 => .array (.int)
  | 16 => .array (.int)
  | 17 => .array (.int)
  | 18 => .int
  | 19 => .int
  | 20 => .int
  | 21 => .int
  | 22 => .int
  | 23 => .array (.int)
  | 24 => .array (.int)
  | 25 => .array (.int)
  | 26 => .array (.int)
  | 27 => .int
  | 28 => .array (.int)
  | 29 => .int
  | 30 => .array (.int)
  | 31 => .array (.int)
  | 32 => .int
  | 33 => .int
  | 34 => .int
  | 35 => .int
  | 36 => .array (.int)
  | 37 => .array (.int)
  | 38 => .array (.int)
  | 39 => .array (.int)
  | 40 => .int
  | 41 => .array (.int)
  | 42 => .array (.int)
  | 43 => .array (.long)
  | 44 => .array (.int)
  | 45 => .array (.int)
  | 46 => .array (.int)
  | 47 => .array (.int)
  | 48 => .array (.int)
  | 49 => .int
  | 50 => .array (.int)
  | 51 => .array (.boolean)
  | _ => .array (.int)
theorem z_nm9 : ∀ a, a < 53 → ∀ b, b < 53 → a ≠ b → (z_F9 a).2.1 ≠ (z_F9 b).2.1 := by decide +kernel
theorem z_ty9 : ∀ k, k < 53 → parseFieldDescriptor (z_F9 k).2.2.1 = some (z_y9 k) := by decide +kernel
def z_cls : List vw_C := [(z_R0, z_F0, 6), (z_R1, z_F1, 3), (z_R2, z_F2, 9), (z_R3, z_F3, 4), (z_R4, z_F4, 10), (z_R5, z_F5, 5), (z_R6, z_F6, 6), (z_R7, z_F7, 8), (z_R8, z_F8, 19), (z_R9, z_F9, 53)]
def z_nf (c : Nat) : Nat := match c with | 0 => 6 | 1 => 3 | 2 => 9 | 3 => 4 | 4 => 10 | 5 => 5 | 6 => 6 | 7 => 8 | 8 => 19 | 9 => 53 | _ => 0
/-- the kind of a field: 0 a number or boolean, 1 a long, 2 a reference that never changes, 3 one that does -/
def z_fk (c j : Nat) : Nat := match c, j with
  | 0, 0 => 2
  | 0, 1 => 2
  | 1, 0 => 2
  | 1, 1 => 2
  | 2, 1 => 1
  | 2, 5 => 2
  | 2, 6 => 2
  | 2, 7 => 2
  | 2, 8 => 2
  | 4, 0 => 2
  | 4, 1 => 2
  | 4, 2 => 2
  | 4, 3 => 2
  | 4, 4 => 2
  | 4, 6 => 2
  | 4, 7 => 2
  | 4, 8 => 2
  | 4, 9 => 2
  | 6, 0 => 2
  | 6, 1 => 2
  | 6, 3 => 2
  | 6, 4 => 2
  | 7, 0 => 2
  | 7, 1 => 2
  | 7, 4 => 2
  | 7, 5 => 3
  | 8, 0 => 2
  | 8, 1 => 2
  | 8, 2 => 2
  | 8, 3 => 2
  | 8, 4 => 2
  | 8, 5 => 2
  | 8, 6 => 2
  | 8, 8 => 1
  | 8, 10 => 2
  | 8, 12 => 2
  | 8, 14 => 2
  | 8, 15 => 2
  | 8, 16 => 2
  | 8, 17 => 2
  | 8, 18 => 2
  | 9, 2 => 2
  | 9, 4 => 2
  | 9, 5 => 2
  | 9, 6 => 2
  | 9, 7 => 2
  | 9, 8 => 2
  | 9, 10 => 2
  | 9, 11 => 2
  | 9, 12 => 2
  | 9, 13 => 2
  | 9, 14 => 2
  | 9, 15 => 2
  | 9, 16 => 2
  | 9, 17 => 2
  | 9, 23 => 2
  | 9, 24 => 2
  | 9, 25 => 2
  | 9, 26 => 2
  | 9, 28 => 2
  | 9, 30 => 2
  | 9, 31 => 2
  | 9, 36 => 2
  | 9, 37 => 2
  | 9, 38 => 2
  | 9, 39 => 2
  | 9, 41 => 2
  | 9, 42 => 2
  | 9, 43 => 2
  | 9, 44 => 2
  | 9, 45 => 2
  | 9, 46 => 2
  | 9, 47 => 2
  | 9, 48 => 2
  | 9, 50 => 2
  | 9, 51 => 2
  | 9, 52 => 2
  | _, _ => 0
/-- where a fixed reference of object o leads -/
def z_rf (c o j : Nat) : Nat := match c with
  | 9 => 100 + j
  | 8 => if j = 4 then 352 else 200 + j
  | 7 => if j = 0 then 353 else if j = 1 then 354 else 220 + j
  | 6 => 240 + j
  | 4 => 260 + j
  | 0 => if j = 0 then o + 20 else o + 40
  | 1 => if j = 0 then o + 80 else o + 120
  | 2 => if j = 5 then o + 10 else if j = 6 then o + 15 else if j = 7 then o + 20 else o + 25
  | _ => 0
/-- what an array of references holds -/
def z_ra (k i : Nat) : Nat := if k = 240 then 300 + i else if k = 205 then 500 + i else 510 + i
/-- what an object is: (0, its class), (1, length) ints, (2, length) longs, (3, length) booleans, (4 .. 6, length) references; (9, 0) none -/
def z_kd0 : List (Nat × Nat) := [(0, 9), (0, 8)]
def z_kd1 : List (Nat × Nat) := [(9, 0), (9, 0), (1, 20), (9, 0), (1, 12), (1, 12), (1, 12), (1, 3), (1, 3), (9, 0), (1, 6), (1, 6), (1, 6), (1, 6), (1, 1728), (1, 27), (1, 64), (1, 80), (9, 0), (9, 0), (9, 0), (9, 0), (9, 0), (1, 3), (1, 12), (1, 6), (1, 6), (9, 0), (1, 60), (9, 0), (1, 12), (1, 12), (9, 0), (9, 0), (9, 0), (9, 0), (1, 98304), (1, 4096), (1, 4096), (1, 4096), (9, 0), (1, 5000), (1, 4096), (2, 5000), (1, 5000), (1, 5000), (1, 5000), (1, 180000), (1, 16384), (9, 0), (1, 5000), (3, 3), (1, 273)]
def z_kd2 : List (Nat × Nat) := [(0, 7), (0, 6), (0, 4), (0, 5), (9, 0), (5, 6), (6, 3), (9, 0), (9, 0), (9, 0), (1, 60), (9, 0), (1, 12), (9, 0), (1, 6), (1, 6), (1, 12), (1, 12), (1, 13), (9, 0), (9, 0), (9, 0), (9, 0), (9, 0), (1, 80), (9, 0), (9, 0), (9, 0), (9, 0), (9, 0), (9, 0), (9, 0), (9, 0), (9, 0), (9, 0), (9, 0), (9, 0), (9, 0), (9, 0), (9, 0), (4, 12), (1, 3), (9, 0), (1, 12288), (1, 12288), (9, 0), (9, 0), (9, 0), (9, 0), (9, 0), (9, 0), (9, 0), (9, 0), (9, 0), (9, 0), (9, 0), (9, 0), (9, 0), (9, 0), (9, 0), (2, 5000), (1, 5000), (1, 5000), (1, 5000), (1, 5000), (9, 0), (1, 16384), (1, 5000), (1, 5001), (1, 180000)]
def z_kd3 : List (Nat × Nat) := [(0, 0), (0, 0), (0, 0), (0, 0), (0, 0), (0, 0), (0, 0), (0, 0), (0, 0), (0, 0), (0, 0), (0, 0), (9, 0), (9, 0), (9, 0), (9, 0), (9, 0), (9, 0), (9, 0), (9, 0), (0, 1), (0, 1), (0, 1), (0, 1), (0, 1), (0, 1), (0, 1), (0, 1), (0, 1), (0, 1), (0, 1), (0, 1), (9, 0), (9, 0), (9, 0), (9, 0), (9, 0), (9, 0), (9, 0), (9, 0), (0, 1), (0, 1), (0, 1), (0, 1), (0, 1), (0, 1), (0, 1), (0, 1), (0, 1), (0, 1), (0, 1), (0, 1), (0, 1), (0, 1), (0, 1)]
def z_kd4 : List (Nat × Nat) := [(1, 60), (1, 60), (1, 60), (1, 60), (1, 60), (1, 60), (1, 60), (1, 60), (1, 60), (1, 60), (1, 60), (1, 60), (9, 0), (9, 0), (9, 0), (9, 0), (9, 0), (9, 0), (9, 0), (9, 0), (1, 60), (1, 60), (1, 60), (1, 60), (1, 60), (1, 60), (1, 60), (1, 60), (1, 60), (1, 60), (1, 60), (1, 60), (1, 60), (1, 60), (1, 60), (9, 0), (9, 0), (9, 0), (9, 0), (9, 0), (1, 60), (1, 60), (1, 60), (1, 60), (1, 60), (1, 60), (1, 60), (1, 60), (1, 60), (1, 60), (1, 60), (1, 60), (9, 0), (9, 0), (9, 0), (9, 0), (9, 0), (9, 0), (9, 0), (9, 0), (1, 60), (1, 60), (1, 60), (1, 60), (1, 60), (1, 60), (1, 60), (1, 60), (1, 60), (1, 60), (1, 60), (1, 60), (1, 60), (1, 60), (1, 60)]
def z_kd5 : List (Nat × Nat) := [(0, 3), (0, 3), (0, 3), (0, 3), (0, 3), (0, 3), (9, 0), (9, 0), (9, 0), (9, 0), (0, 2), (0, 2), (0, 2), (9, 0), (9, 0), (9, 0), (9, 0), (9, 0), (9, 0), (9, 0), (1, 60), (1, 60), (1, 60), (9, 0), (9, 0), (1, 12), (1, 12), (1, 12), (9, 0), (9, 0), (1, 6), (1, 6), (1, 6), (9, 0), (9, 0), (1, 6), (1, 6), (1, 6), (9, 0), (9, 0), (9, 0), (9, 0), (9, 0), (9, 0), (9, 0), (9, 0), (9, 0), (9, 0), (9, 0), (9, 0), (2, 1)]
def z_kd (k : Nat) : Nat × Nat := if k < 100 then z_kd0.getD (k - 0) (9, 0) else if k < 200 then z_kd1.getD (k - 100) (9, 0) else if k < 300 then z_kd2.getD (k - 200) (9, 0) else if k < 400 then z_kd3.getD (k - 300) (9, 0) else if k < 500 then z_kd4.getD (k - 400) (9, 0) else if k < 600 then z_kd5.getD (k - 500) (9, 0) else (9, 0)
def z_ids : List Nat := [0, 1, 102, 104, 105, 106, 107, 108, 110, 111, 112, 113, 114, 115, 116, 117, 123, 124, 125, 126, 128, 130, 131, 136, 137, 138, 139, 141, 142, 143, 144, 145, 146, 147, 148, 150, 151, 152, 200, 201, 202, 203, 205, 206, 210, 212, 214, 215, 216, 217, 218, 224, 240, 241, 243, 244, 260, 261, 262, 263, 264, 266, 267, 268, 269, 300, 301, 302, 303, 304, 305, 306, 307, 308, 309, 310, 311, 320, 321, 322, 323, 324, 325, 326, 327, 328, 329, 330, 331, 340, 341, 342, 343, 344, 345, 346, 347, 348, 349, 350, 351, 352, 353, 354, 400, 401, 402, 403, 404, 405, 406, 407, 408, 409, 410, 411, 420, 421, 422, 423, 424, 425, 426, 427, 428, 429, 430, 431, 432, 433, 434, 440, 441, 442, 443, 444, 445, 446, 447, 448, 449, 450, 451, 460, 461, 462, 463, 464, 465, 466, 467, 468, 469, 470, 471, 472, 473, 474, 500, 501, 502, 503, 504, 505, 510, 511, 512, 520, 521, 522, 525, 526, 527, 530, 531, 532, 535, 536, 537, 550]
theorem z_ids_nd : z_ids.Nodup := by decide +kernel
theorem z_ids_all : ∀ k ∈ z_ids, (z_kd k).1 < 9 := by decide +kernel
abbrev ZSt : Type := (Nat → Nat → Int32) × (Nat → Nat → Int64)
def gi (σ : ZSt) (o j : Nat) : Int32 := σ.1 o j
def gl (σ : ZSt) (o j : Nat) : Int64 := σ.2 o j
def si (σ : ZSt) (o j : Nat) (v : Int32) : ZSt := (fun a b => if a = o ∧ b = j then v else σ.1 a b, σ.2)
def sl (σ : ZSt) (o j : Nat) (v : Int64) : ZSt := (σ.1, fun a b => if a = o ∧ b = j then v else σ.2 a b)
/-- a launch, the classes' numbers, the array classes, where each object lies -/
abbrev ZG : Type := Launch × va_G × (Nat → ClassId) × (Nat → Nat)
def z_v (g : ZG) (v : Value) : Value := match v with
  | .ref k => .ref (g.2.2.2 k)
  | v => v
def z_fv (g : ZG) (σ : ZSt) (o c j : Nat) : Value := match z_fk c j with
  | 0 => .int (σ.1 o j)
  | 1 => .long (σ.2 o j)
  | 2 => .ref (g.2.2.2 (z_rf c o j))
  | _ => .ref (g.2.2.2 (σ.1 o j).toNatClampNeg)
def z_ct (g : ZG) (σ : ZSt) (o : Nat) : va_E := match z_kd o with
  | (0, c) => .inr (c, (List.range (z_nf c)).map (fun j => z_fv g σ o c j))
  | (1, n) => .inl (g.2.2.1 0, n, .inl (σ.1 o))
  | (2, n) => .inl (g.2.2.1 1, n, .inr (.inl (σ.2 o)))
  | (3, n) => .inl (g.2.2.1 2, n, .inl (σ.1 o))
  | (4, n) => .inl (g.2.2.1 3, n, .inr (.inr (.inr (.inr (fun i => some (g.2.2.2 (z_ra o i)))))))
  | (5, n) => .inl (g.2.2.1 4, n, .inr (.inr (.inr (.inr (fun i => some (g.2.2.2 (z_ra o i)))))))
  | (_, n) => .inl (g.2.2.1 5, n, .inr (.inr (.inr (.inr (fun i => some (g.2.2.2 (z_ra o i)))))))
def z_wl (g : ZG) (σ : ZSt) : va_W := z_ids.map (fun k => (g.2.2.2 k, z_ct g σ k))
def z_tys (g : ZG) : List (ClassId × FieldType) := [(g.2.2.1 0, .int), (g.2.2.1 1, .long), (g.2.2.1 2, .boolean), (g.2.2.1 3, .object z_R0), (g.2.2.1 4, .object z_R3), (g.2.2.1 5, .object z_R2)]
/-- which cells may change: the world's, and new ones -/
def z_A (g : ZG) (sz : Nat) : Nat → Prop := fun q => (∃ k, k ∈ z_ids ∧ q = g.2.2.2 k) ∨ sz ≤ q
def z_isO (o c : Nat) : Bool := z_ids.contains o && z_kd o == (0, c)
def z_isA (t o n : Nat) : Bool := z_ids.contains o && z_kd o == (t, n)
theorem z_isO_id {o c : Nat} (h : z_isO o c = true) : o ∈ z_ids ∧ z_kd o = (0, c) := by
  simp only [z_isO, Bool.and_eq_true, List.contains_iff_mem, beq_iff_eq] at h
  exact h
theorem z_isA_id {t o n : Nat} (h : z_isA t o n = true) : o ∈ z_ids ∧ z_kd o = (t, n) := by
  simp only [z_isA, Bool.and_eq_true, List.contains_iff_mem, beq_iff_eq] at h
  exact h
theorem z_at (g : ZG) (σ : ZSt) {o : Nat} (h : o ∈ z_ids) : ∃ i : Nat, z_ids[i]? = some o ∧ (z_wl g σ)[i]? = some (g.2.2.2 o, z_ct g σ o) := by
  obtain ⟨i, hi⟩ := List.getElem?_of_mem h
  exact ⟨i, hi, by simp [z_wl, hi]⟩
theorem z_set {g : ZG} {σ τ : ZSt} {o i : Nat} (hi : z_ids[i]? = some o) (h : ∀ k ∈ z_ids, k ≠ o → z_ct g τ k = z_ct g σ k) : (z_wl g σ).set i (g.2.2.2 o, z_ct g τ o) = z_wl g τ := by
  apply List.ext_getElem?
  intro j
  rw [List.getElem?_set]
  have hil : i < z_ids.length := (List.getElem?_eq_some_iff.mp hi).1
  by_cases hj : i = j
  · subst hj
    rw [if_pos rfl, if_pos (by simpa [z_wl] using hil)]
    simp [z_wl, hi]
  · rw [if_neg hj]
    simp only [z_wl, List.getElem?_map]
    cases hk : z_ids[j]? with
    | none => rfl
    | some k =>
      have hne : k ≠ o := by
        intro e
        subst e
        have hjl : j < z_ids.length := (List.getElem?_eq_some_iff.mp hk).1
        exact hj ((List.getElem?_inj hil z_ids_nd).mp (hi.trans hk.symm))
      simp [h k (List.mem_of_getElem? hk) hne]
theorem z_ct_si {g : ZG} {σ : ZSt} {o j k : Nat} {v : Int32} (h : k ≠ o) : z_ct g (si σ o j v) k = z_ct g σ k := by
  have e1 : (si σ o j v).1 k = σ.1 k := by funext b; simp [si, h]
  have e2 : (si σ o j v).2 = σ.2 := rfl
  unfold z_ct z_fv
  rw [e1, e2]
theorem z_ct_sl {g : ZG} {σ : ZSt} {o j k : Nat} {v : Int64} (h : k ≠ o) : z_ct g (sl σ o j v) k = z_ct g σ k := by
  have e1 : (sl σ o j v).2 k = σ.2 k := by funext b; simp [sl, h]
  have e2 : (sl σ o j v).1 = σ.1 := rfl
  unfold z_ct z_fv
  rw [e1, e2]
theorem z_ct_o {g : ZG} {σ : ZSt} {o c : Nat} (h : z_kd o = (0, c)) : z_ct g σ o = .inr (c, (List.range (z_nf c)).map (fun j => z_fv g σ o c j)) := by unfold z_ct; rw [h]; rfl
theorem z_ct_i {g : ZG} {σ : ZSt} {o n : Nat} (h : z_kd o = (1, n)) : z_ct g σ o = .inl (g.2.2.1 0, n, .inl (σ.1 o)) := by unfold z_ct; rw [h]; rfl
theorem z_ct_l {g : ZG} {σ : ZSt} {o n : Nat} (h : z_kd o = (2, n)) : z_ct g σ o = .inl (g.2.2.1 1, n, .inr (.inl (σ.2 o))) := by unfold z_ct; rw [h]; rfl
theorem z_ct_z {g : ZG} {σ : ZSt} {o n : Nat} (h : z_kd o = (3, n)) : z_ct g σ o = .inl (g.2.2.1 2, n, .inl (σ.1 o)) := by unfold z_ct; rw [h]; rfl
theorem z_ct_q {g : ZG} {σ : ZSt} {o n t : Nat} (h : z_kd o = (t + 4, n)) (ht : t < 3) : z_ct g σ o = .inl (g.2.2.1 (t + 3), n, .inr (.inr (.inr (.inr (fun i => some (g.2.2.2 (z_ra o i))))))) := by
  unfold z_ct
  rw [h]
  rcases (show t = 0 ∨ t = 1 ∨ t = 2 by omega) with rfl | rfl | rfl <;> rfl
