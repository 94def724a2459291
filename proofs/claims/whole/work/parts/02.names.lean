/-- the words that last -/
def tbl : List Cond := lw_tbl.filter goodWord
theorem in_tbl {w : Cond} (h : w ∈ tables_1) (hg : goodWord w = true) : w ∈ tbl := List.mem_filter.mpr ⟨List.mem_append_right _ h, hg⟩
theorem in_tblS {w : Cond} (h : w ∈ k2_sels lw_privs) (hg : goodWord w = true) : w ∈ tbl := List.mem_filter.mpr ⟨List.mem_append_left _ h, hg⟩
def RC0 : String := "DesertJars$Camp"
def TC0 : u_T := fun k => match k with
  | 0 => ("DesertJars$Camp", "jars", "[I", true)
  | 1 => ("DesertJars$Camp", "space", "[I", true)
  | 2 => ("DesertJars$Camp", "throne", "I", false)
  | 3 => ("DesertJars$Camp", "day", "I", false)
  | 4 => ("DesertJars$Camp", "draw", "I", false)
  | 5 => ("DesertJars$Camp", "gone", "I", false)
  | _ => ("DesertJars$Camp", "robbed", "I", false)
def yC0 : Nat → FieldType := fun k => match k with
  | 0 => .array .int
  | 1 => .array .int
  | 2 => .int
  | 3 => .int
  | 4 => .int
  | 5 => .int
  | _ => .int
theorem nC0 : ∀ a, a < 7 → ∀ b, b < 7 → a ≠ b → (TC0 a).2.1 ≠ (TC0 b).2.1 := by decide +kernel
theorem tC0 : ∀ k, k < 7 → parseFieldDescriptor (TC0 k).2.2.1 = some (yC0 k) := by decide +kernel
def pC0 : List Nat := [171, 173, 175, 177, 179, 181, 183]
theorem qC0 : ∀ k, k < 7 → tables_1[pC0.getD k 0]? = some (u_lay RC0 TC0 k) := by decide +kernel
theorem iC0 : ∀ w ∈ u_ws RC0 TC0 7, w ∈ tbl := fun w hw => by
  obtain ⟨k, hk, rfl⟩ := List.mem_map.mp hw
  refine in_tbl (List.mem_of_getElem? (qC0 k (List.mem_range.mp hk))) ?_
  unfold u_lay
  split <;> rfl
def RC1 : String := "DesertJars$Fewest"
def TC1 : u_T := fun k => match k with
  | 0 => ("DesertJars$Fewest", "ranks", "LDesertJars$Ranks;", true)
  | 1 => ("DesertJars$Fewest", "row", "[I", true)
  | 2 => ("DesertJars$Fewest", "best", "[I", true)
  | 3 => ("DesertJars$Fewest", "reached", "[I", false)
  | 4 => ("DesertJars$Fewest", "jars", "I", false)
  | _ => ("DesertJars$Fewest", "layings", "I", false)
def yC1 : Nat → FieldType := fun k => match k with
  | 0 => .object "DesertJars$Ranks"
  | 1 => .array .int
  | 2 => .array .int
  | 3 => .array .int
  | 4 => .int
  | _ => .int
theorem nC1 : ∀ a, a < 6 → ∀ b, b < 6 → a ≠ b → (TC1 a).2.1 ≠ (TC1 b).2.1 := by decide +kernel
theorem tC1 : ∀ k, k < 6 → parseFieldDescriptor (TC1 k).2.2.1 = some (yC1 k) := by decide +kernel
def pC1 : List Nat := [333, 335, 337, 339, 341, 343]
theorem qC1 : ∀ k, k < 6 → tables_1[pC1.getD k 0]? = some (u_lay RC1 TC1 k) := by decide +kernel
theorem iC1 : ∀ w ∈ u_ws RC1 TC1 6, w ∈ tbl := fun w hw => by
  obtain ⟨k, hk, rfl⟩ := List.mem_map.mp hw
  refine in_tbl (List.mem_of_getElem? (qC1 k (List.mem_range.mp hk))) ?_
  unfold u_lay
  split <;> rfl
def RC2 : String := "DesertJars$Land"
def TC2 : u_T := fun k => match k with
  | 0 => ("DesertJars$Land", "wells", "I", false)
  | 1 => ("DesertJars$Land", "next", "[I", true)
  | _ => ("DesertJars$Land", "ways", "[I", true)
def yC2 : Nat → FieldType := fun k => match k with
  | 0 => .int
  | 1 => .array .int
  | _ => .array .int
theorem nC2 : ∀ a, a < 3 → ∀ b, b < 3 → a ≠ b → (TC2 a).2.1 ≠ (TC2 b).2.1 := by decide +kernel
theorem tC2 : ∀ k, k < 3 → parseFieldDescriptor (TC2 k).2.2.1 = some (yC2 k) := by decide +kernel
def pC2 : List Nat := [91, 93, 95]
theorem qC2 : ∀ k, k < 3 → tables_1[pC2.getD k 0]? = some (u_lay RC2 TC2 k) := by decide +kernel
theorem iC2 : ∀ w ∈ u_ws RC2 TC2 3, w ∈ tbl := fun w hw => by
  obtain ⟨k, hk, rfl⟩ := List.mem_map.mp hw
  refine in_tbl (List.mem_of_getElem? (qC2 k (List.mem_range.mp hk))) ?_
  unfold u_lay
  split <;> rfl
def RC3 : String := "DesertJars$LandReader"
def TC3 : u_T := fun k => match k with
  | 0 => ("DesertJars$LandReader", "tape", "LDesertJars$Tape;", true)
  | 1 => ("DesertJars$LandReader", "wholes", "[LDesertJars$Land;", true)
  | 2 => ("DesertJars$LandReader", "plain", "LDesertJars$Land;", true)
  | _ => ("DesertJars$LandReader", "mixed", "LDesertJars$Land;", true)
def yC3 : Nat → FieldType := fun k => match k with
  | 0 => .object "DesertJars$Tape"
  | 1 => .array (.object "DesertJars$Land")
  | 2 => .object "DesertJars$Land"
  | _ => .object "DesertJars$Land"
theorem nC3 : ∀ a, a < 4 → ∀ b, b < 4 → a ≠ b → (TC3 a).2.1 ≠ (TC3 b).2.1 := by decide +kernel
theorem tC3 : ∀ k, k < 4 → parseFieldDescriptor (TC3 k).2.2.1 = some (yC3 k) := by decide +kernel
def pC3 : List Nat := [102, 104, 106, 108]
theorem qC3 : ∀ k, k < 4 → tables_1[pC3.getD k 0]? = some (u_lay RC3 TC3 k) := by decide +kernel
theorem iC3 : ∀ w ∈ u_ws RC3 TC3 4, w ∈ tbl := fun w hw => by
  obtain ⟨k, hk, rfl⟩ := List.mem_map.mp hw
  refine in_tbl (List.mem_of_getElem? (qC3 k (List.mem_range.mp hk))) ?_
  unfold u_lay
  split <;> rfl
def RC4 : String := "DesertJars$Law"
def TC4 : u_T := fun k => match k with
  | 0 => ("DesertJars$Law", "tape", "LDesertJars$Tape;", true)
  | 1 => ("DesertJars$Law", "rules", "I", false)
  | 2 => ("DesertJars$Law", "kinds", "[I", true)
  | 3 => ("DesertJars$Law", "worths", "[I", true)
  | 4 => ("DesertJars$Law", "tests", "[I", true)
  | 5 => ("DesertJars$Law", "code", "[I", true)
  | 6 => ("DesertJars$Law", "size", "I", false)
  | 7 => ("DesertJars$Law", "given", "[I", true)
  | _ => ("DesertJars$Law", "stack", "[I", true)
def yC4 : Nat → FieldType := fun k => match k with
  | 0 => .object "DesertJars$Tape"
  | 1 => .int
  | 2 => .array .int
  | 3 => .array .int
  | 4 => .array .int
  | 5 => .array .int
  | 6 => .int
  | 7 => .array .int
  | _ => .array .int
theorem nC4 : ∀ a, a < 9 → ∀ b, b < 9 → a ≠ b → (TC4 a).2.1 ≠ (TC4 b).2.1 := by decide +kernel
theorem tC4 : ∀ k, k < 9 → parseFieldDescriptor (TC4 k).2.2.1 = some (yC4 k) := by decide +kernel
def pC4 : List Nat := [130, 132, 134, 136, 138, 140, 142, 144, 146]
theorem qC4 : ∀ k, k < 9 → tables_1[pC4.getD k 0]? = some (u_lay RC4 TC4 k) := by decide +kernel
theorem iC4 : ∀ w ∈ u_ws RC4 TC4 9, w ∈ tbl := fun w hw => by
  obtain ⟨k, hk, rfl⟩ := List.mem_map.mp hw
  refine in_tbl (List.mem_of_getElem? (qC4 k (List.mem_range.mp hk))) ?_
  unfold u_lay
  split <;> rfl
def RC5 : String := "DesertJars$Ledger"
def TC5 : u_T := fun k => match k with
  | 0 => ("DesertJars$Ledger", "needs", "[I", true)
  | 1 => ("DesertJars$Ledger", "changes", "[I", true)
  | 2 => ("DesertJars$Ledger", "row", "[I", true)
  | 3 => ("DesertJars$Ledger", "lost", "I", false)
  | 4 => ("DesertJars$Ledger", "throne", "I", false)
  | 5 => ("DesertJars$Ledger", "ways", "I", false)
  | 6 => ("DesertJars$Ledger", "least", "I", false)
  | _ => ("DesertJars$Ledger", "most", "I", false)
def yC5 : Nat → FieldType := fun k => match k with
  | 0 => .array .int
  | 1 => .array .int
  | 2 => .array .int
  | 3 => .int
  | 4 => .int
  | 5 => .int
  | 6 => .int
  | _ => .int
theorem nC5 : ∀ a, a < 8 → ∀ b, b < 8 → a ≠ b → (TC5 a).2.1 ≠ (TC5 b).2.1 := by decide +kernel
theorem tC5 : ∀ k, k < 8 → parseFieldDescriptor (TC5 k).2.2.1 = some (yC5 k) := by decide +kernel
def pC5 : List Nat := [363, 365, 367, 369, 371, 373, 375, 377]
theorem qC5 : ∀ k, k < 8 → tables_1[pC5.getD k 0]? = some (u_lay RC5 TC5 k) := by decide +kernel
theorem iC5 : ∀ w ∈ u_ws RC5 TC5 8, w ∈ tbl := fun w hw => by
  obtain ⟨k, hk, rfl⟩ := List.mem_map.mp hw
  refine in_tbl (List.mem_of_getElem? (qC5 k (List.mem_range.mp hk))) ?_
  unfold u_lay
  split <;> rfl
def RC6 : String := "DesertJars$Numbers"
def TC6 : u_T := fun k => match k with
  | 0 => ("DesertJars$Numbers", "told", "[I", true)
  | 1 => ("DesertJars$Numbers", "layings", "[I", true)
  | 2 => ("DesertJars$Numbers", "rows", "[I", true)
  | 3 => ("DesertJars$Numbers", "greatestWell", "I", false)
  | 4 => ("DesertJars$Numbers", "found", "[I", false)
  | 5 => ("DesertJars$Numbers", "marks", "[I", false)
  | 6 => ("DesertJars$Numbers", "shifts", "[I", true)
  | 7 => ("DesertJars$Numbers", "fields", "[I", true)
  | 8 => ("DesertJars$Numbers", "two", "[I", true)
  | 9 => ("DesertJars$Numbers", "full", "[I", true)
  | 10 => ("DesertJars$Numbers", "change", "[I", true)
  | 11 => ("DesertJars$Numbers", "moves", "I", false)
  | 12 => ("DesertJars$Numbers", "wells", "I", false)
  | 13 => ("DesertJars$Numbers", "size", "I", false)
  | _ => ("DesertJars$Numbers", "levelStart", "I", false)
def yC6 : Nat → FieldType := fun k => match k with
  | 0 => .array .int
  | 1 => .array .int
  | 2 => .array .int
  | 3 => .int
  | 4 => .array .int
  | 5 => .array .int
  | 6 => .array .int
  | 7 => .array .int
  | 8 => .array .int
  | 9 => .array .int
  | 10 => .array .int
  | 11 => .int
  | 12 => .int
  | 13 => .int
  | _ => .int
theorem nC6 : ∀ a, a < 15 → ∀ b, b < 15 → a ≠ b → (TC6 a).2.1 ≠ (TC6 b).2.1 := by decide +kernel
theorem tC6 : ∀ k, k < 15 → parseFieldDescriptor (TC6 k).2.2.1 = some (yC6 k) := by decide +kernel
def pC6 : List Nat := [209, 211, 213, 215, 217, 219, 221, 223, 225, 227, 229, 231, 233, 235, 237]
theorem qC6 : ∀ k, k < 15 → tables_1[pC6.getD k 0]? = some (u_lay RC6 TC6 k) := by decide +kernel
theorem iC6 : ∀ w ∈ u_ws RC6 TC6 15, w ∈ tbl := fun w hw => by
  obtain ⟨k, hk, rfl⟩ := List.mem_map.mp hw
  refine in_tbl (List.mem_of_getElem? (qC6 k (List.mem_range.mp hk))) ?_
  unfold u_lay
  split <;> rfl
def RC7 : String := "DesertJars$Ranks"
def TC7 : u_T := fun k => match k with
  | _ => ("DesertJars$Ranks", "below", "[I", true)
def yC7 : Nat → FieldType := fun k => match k with
  | _ => .array .int
theorem nC7 : ∀ a, a < 1 → ∀ b, b < 1 → a ≠ b → (TC7 a).2.1 ≠ (TC7 b).2.1 := by decide +kernel
theorem tC7 : ∀ k, k < 1 → parseFieldDescriptor (TC7 k).2.2.1 = some (yC7 k) := by decide +kernel
def pC7 : List Nat := [253]
theorem qC7 : ∀ k, k < 1 → tables_1[pC7.getD k 0]? = some (u_lay RC7 TC7 k) := by decide +kernel
theorem iC7 : ∀ w ∈ u_ws RC7 TC7 1, w ∈ tbl := fun w hw => by
  obtain ⟨k, hk, rfl⟩ := List.mem_map.mp hw
  refine in_tbl (List.mem_of_getElem? (qC7 k (List.mem_range.mp hk))) ?_
  unfold u_lay
  split <;> rfl
def RC8 : String := "DesertJars$Search"
def TC8 : u_T := fun k => match k with
  | 0 => ("DesertJars$Search", "ranks", "LDesertJars$Ranks;", true)
  | 1 => ("DesertJars$Search", "takenA", "[I", true)
  | 2 => ("DesertJars$Search", "takenB", "[I", true)
  | 3 => ("DesertJars$Search", "given", "[I", true)
  | 4 => ("DesertJars$Search", "nearest", "[I", true)
  | 5 => ("DesertJars$Search", "ways", "[I", true)
  | 6 => ("DesertJars$Search", "row", "[I", true)
  | 7 => ("DesertJars$Search", "moves", "I", false)
  | 8 => ("DesertJars$Search", "seen", "[I", false)
  | 9 => ("DesertJars$Search", "layings", "[I", false)
  | 10 => ("DesertJars$Search", "starts", "[B", false)
  | 11 => ("DesertJars$Search", "found", "I", false)
  | 12 => ("DesertJars$Search", "wells", "I", false)
  | 13 => ("DesertJars$Search", "reachable", "I", false)
  | 14 => ("DesertJars$Search", "aim", "I", false)
  | 15 => ("DesertJars$Search", "due", "I", false)
  | 16 => ("DesertJars$Search", "limit", "I", false)
  | 17 => ("DesertJars$Search", "nextLimit", "I", false)
  | _ => ("DesertJars$Search", "firstMove", "I", false)
def yC8 : Nat → FieldType := fun k => match k with
  | 0 => .object "DesertJars$Ranks"
  | 1 => .array .int
  | 2 => .array .int
  | 3 => .array .int
  | 4 => .array .int
  | 5 => .array .int
  | 6 => .array .int
  | 7 => .int
  | 8 => .array .int
  | 9 => .array .int
  | 10 => .array .byte
  | 11 => .int
  | 12 => .int
  | 13 => .int
  | 14 => .int
  | 15 => .int
  | 16 => .int
  | 17 => .int
  | _ => .int
theorem nC8 : ∀ a, a < 19 → ∀ b, b < 19 → a ≠ b → (TC8 a).2.1 ≠ (TC8 b).2.1 := by decide +kernel
theorem tC8 : ∀ k, k < 19 → parseFieldDescriptor (TC8 k).2.2.1 = some (yC8 k) := by decide +kernel
def pC8 : List Nat := [276, 278, 280, 282, 284, 286, 288, 290, 292, 294, 296, 298, 300, 302, 304, 306, 308, 310, 312]
theorem qC8 : ∀ k, k < 19 → tables_1[pC8.getD k 0]? = some (u_lay RC8 TC8 k) := by decide +kernel
theorem iC8 : ∀ w ∈ u_ws RC8 TC8 19, w ∈ tbl := fun w hw => by
  obtain ⟨k, hk, rfl⟩ := List.mem_map.mp hw
  refine in_tbl (List.mem_of_getElem? (qC8 k (List.mem_range.mp hk))) ?_
  unfold u_lay
  split <;> rfl
def RC9 : String := "DesertJars$Symmetry"
def TC9 : u_T := fun k => match k with
  | 0 => ("DesertJars$Symmetry", "order", "[I", true)
  | 1 => ("DesertJars$Symmetry", "images", "[I", true)
  | 2 => ("DesertJars$Symmetry", "looks", "[J", true)
  | 3 => ("DesertJars$Symmetry", "twins", "[I", true)
  | _ => ("DesertJars$Symmetry", "land", "LDesertJars$Land;", false)
def yC9 : Nat → FieldType := fun k => match k with
  | 0 => .array .int
  | 1 => .array .int
  | 2 => .array .long
  | 3 => .array .int
  | _ => .object "DesertJars$Land"
theorem nC9 : ∀ a, a < 5 → ∀ b, b < 5 → a ≠ b → (TC9 a).2.1 ≠ (TC9 b).2.1 := by decide +kernel
theorem tC9 : ∀ k, k < 5 → parseFieldDescriptor (TC9 k).2.2.1 = some (yC9 k) := by decide +kernel
def pC9 : List Nat := [391, 393, 395, 397, 399]
theorem qC9 : ∀ k, k < 5 → tables_1[pC9.getD k 0]? = some (u_lay RC9 TC9 k) := by decide +kernel
theorem iC9 : ∀ w ∈ u_ws RC9 TC9 5, w ∈ tbl := fun w hw => by
  obtain ⟨k, hk, rfl⟩ := List.mem_map.mp hw
  refine in_tbl (List.mem_of_getElem? (qC9 k (List.mem_range.mp hk))) ?_
  unfold u_lay
  split <;> rfl
def RC10 : String := "DesertJars$Tape"
def TC10 : u_T := fun k => match k with
  | 0 => ("DesertJars$Tape", "bytes", "[I", true)
  | 1 => ("DesertJars$Tape", "length", "I", false)
  | 2 => ("DesertJars$Tape", "end", "I", false)
  | 3 => ("DesertJars$Tape", "at", "I", false)
  | _ => ("DesertJars$Tape", "fault", "I", false)
def yC10 : Nat → FieldType := fun k => match k with
  | 0 => .array .int
  | 1 => .int
  | 2 => .int
  | 3 => .int
  | _ => .int
theorem nC10 : ∀ a, a < 5 → ∀ b, b < 5 → a ≠ b → (TC10 a).2.1 ≠ (TC10 b).2.1 := by decide +kernel
theorem tC10 : ∀ k, k < 5 → parseFieldDescriptor (TC10 k).2.2.1 = some (yC10 k) := by decide +kernel
def pC10 : List Nat := [51, 53, 55, 57, 59]
theorem qC10 : ∀ k, k < 5 → tables_1[pC10.getD k 0]? = some (u_lay RC10 TC10 k) := by decide +kernel
theorem iC10 : ∀ w ∈ u_ws RC10 TC10 5, w ∈ tbl := fun w hw => by
  obtain ⟨k, hk, rfl⟩ := List.mem_map.mp hw
  refine in_tbl (List.mem_of_getElem? (qC10 k (List.mem_range.mp hk))) ?_
  unfold u_lay
  split <;> rfl
def RC11 : String := "DesertJars"
def TC11 : u_T := fun k => match k with
  | 0 => ("DesertJars", "tape", "LDesertJars$Tape;", true)
  | 1 => ("DesertJars", "landReader", "LDesertJars$LandReader;", true)
  | 2 => ("DesertJars", "here", "LDesertJars$Land;", true)
  | 3 => ("DesertJars", "first", "LDesertJars$Land;", true)
  | 4 => ("DesertJars", "second", "LDesertJars$Land;", true)
  | 5 => ("DesertJars", "mixed", "LDesertJars$Land;", true)
  | 6 => ("DesertJars", "ruling", "LDesertJars$Law;", false)
  | 7 => ("DesertJars", "spare", "LDesertJars$Law;", false)
  | 8 => ("DesertJars", "camp", "LDesertJars$Camp;", true)
  | 9 => ("DesertJars", "trial", "LDesertJars$Camp;", true)
  | 10 => ("DesertJars", "kept", "LDesertJars$Camp;", true)
  | 11 => ("DesertJars", "anyKept", "Z", false)
  | 12 => ("DesertJars", "numbers", "LDesertJars$Numbers;", true)
  | 13 => ("DesertJars", "search", "LDesertJars$Search;", true)
  | 14 => ("DesertJars", "leanest", "LDesertJars$Fewest;", true)
  | 15 => ("DesertJars", "book", "LDesertJars$Ledger;", true)
  | _ => ("DesertJars", "symmetry", "LDesertJars$Symmetry;", true)
def yC11 : Nat → FieldType := fun k => match k with
  | 0 => .object "DesertJars$Tape"
  | 1 => .object "DesertJars$LandReader"
  | 2 => .object "DesertJars$Land"
  | 3 => .object "DesertJars$Land"
  | 4 => .object "DesertJars$Land"
  | 5 => .object "DesertJars$Land"
  | 6 => .object "DesertJars$Law"
  | 7 => .object "DesertJars$Law"
  | 8 => .object "DesertJars$Camp"
  | 9 => .object "DesertJars$Camp"
  | 10 => .object "DesertJars$Camp"
  | 11 => .boolean
  | 12 => .object "DesertJars$Numbers"
  | 13 => .object "DesertJars$Search"
  | 14 => .object "DesertJars$Fewest"
  | 15 => .object "DesertJars$Ledger"
  | _ => .object "DesertJars$Symmetry"
theorem nC11 : ∀ a, a < 17 → ∀ b, b < 17 → a ≠ b → (TC11 a).2.1 ≠ (TC11 b).2.1 := by decide +kernel
theorem tC11 : ∀ k, k < 17 → parseFieldDescriptor (TC11 k).2.2.1 = some (yC11 k) := by decide +kernel
def pC11 : List Nat := [427, 429, 431, 433, 435, 437, 439, 441, 443, 445, 447, 449, 451, 453, 455, 457, 459]
theorem qC11 : ∀ k, k < 17 → tables_1[pC11.getD k 0]? = some (u_lay RC11 TC11 k) := by decide +kernel
theorem iC11 : ∀ w ∈ u_ws RC11 TC11 17, w ∈ tbl := fun w hw => by
  obtain ⟨k, hk, rfl⟩ := List.mem_map.mp hw
  refine in_tbl (List.mem_of_getElem? (qC11 k (List.mem_range.mp hk))) ?_
  unfold u_lay
  split <;> rfl
def RC12 : String := "DesertJarsModel"
def TC12 : u_T := fun k => match k with
  | 0 => ("DesertJarsModel", "now", "[I", true)
  | 1 => ("DesertJarsModel", "aside", "[I", true)
  | 2 => ("DesertJarsModel", "kept", "[I", true)
  | 3 => ("DesertJarsModel", "nextTo", "[I", true)
  | 4 => ("DesertJarsModel", "wasNext", "[I", true)
  | 5 => ("DesertJarsModel", "wells", "I", false)
  | 6 => ("DesertJarsModel", "wasWells", "I", false)
  | 7 => ("DesertJarsModel", "farOf", "[I", true)
  | 8 => ("DesertJarsModel", "line", "[I", true)
  | 9 => ("DesertJarsModel", "tape", "[B", true)
  | 10 => ("DesertJarsModel", "taped", "I", false)
  | 11 => ("DesertJarsModel", "place0", "I", false)
  | 12 => ("DesertJarsModel", "length0", "I", false)
  | 13 => ("DesertJarsModel", "fault", "I", false)
  | 14 => ("DesertJarsModel", "number0", "I", false)
  | 15 => ("DesertJarsModel", "open", "I", false)
  | 16 => ("DesertJarsModel", "codeMany", "I", false)
  | 17 => ("DesertJarsModel", "waiting", "I", false)
  | 18 => ("DesertJarsModel", "saidMany", "I", false)
  | 19 => ("DesertJarsModel", "clauses", "I", false)
  | 20 => ("DesertJarsModel", "said", "[I", true)
  | 21 => ("DesertJarsModel", "waitsAt", "[I", true)
  | 22 => ("DesertJarsModel", "saidLetter", "[I", true)
  | 23 => ("DesertJarsModel", "saidFrom", "[I", true)
  | 24 => ("DesertJarsModel", "saidHalf", "[I", true)
  | 25 => ("DesertJarsModel", "saidTo", "[I", true)
  | 26 => ("DesertJarsModel", "codes", "[I", true)
  | 27 => ("DesertJarsModel", "clauseOf", "[I", true)
  | 28 => ("DesertJarsModel", "codeFrom", "[I", true)
  | 29 => ("DesertJarsModel", "codeHalf", "[I", true)
  | 30 => ("DesertJarsModel", "codeTo", "[I", true)
  | 31 => ("DesertJarsModel", "stack", "[I", true)
  | 32 => ("DesertJarsModel", "facts", "[I", true)
  | 33 => ("DesertJarsModel", "manyAt", "[I", true)
  | 34 => ("DesertJarsModel", "nextAt", "[I", true)
  | 35 => ("DesertJarsModel", "partAt", "[I", true)
  | 36 => ("DesertJarsModel", "newNext", "[I", true)
  | 37 => ("DesertJarsModel", "depth", "I", false)
  | 38 => ("DesertJarsModel", "newLines", "I", false)
  | 39 => ("DesertJarsModel", "newJars", "[I", true)
  | 40 => ("DesertJarsModel", "stagesNow", "I", false)
  | 41 => ("DesertJarsModel", "robbedNow", "I", false)
  | 42 => ("DesertJarsModel", "slotFor", "[I", true)
  | 43 => ("DesertJarsModel", "stateAt", "[I", true)
  | 44 => ("DesertJarsModel", "slotOf", "[I", true)
  | 45 => ("DesertJarsModel", "firstAt", "[I", true)
  | 46 => ("DesertJarsModel", "movesTo", "[B", true)
  | 47 => ("DesertJarsModel", "states", "I", false)
  | 48 => ("DesertJarsModel", "shiftOf", "[I", true)
  | 49 => ("DesertJarsModel", "widthOf", "[I", true)
  | 50 => ("DesertJarsModel", "nextIn", "[I", true)
  | 51 => ("DesertJarsModel", "headOf", "[I", true)
  | 52 => ("DesertJarsModel", "isVain", "[Z", true)
  | 53 => ("DesertJarsModel", "bitsInAll", "I", false)
  | 54 => ("DesertJarsModel", "vainMost", "I", false)
  | 55 => ("DesertJarsModel", "vainMany", "I", false)
  | 56 => ("DesertJarsModel", "vainGreatest", "I", false)
  | 57 => ("DesertJarsModel", "lowestBest", "I", false)
  | 58 => ("DesertJarsModel", "laidNow", "[I", true)
  | 59 => ("DesertJarsModel", "laidBest", "[I", true)
  | 60 => ("DesertJarsModel", "firstNext", "[I", true)
  | 61 => ("DesertJarsModel", "secondNext", "[I", true)
  | 62 => ("DesertJarsModel", "firstMany", "I", false)
  | 63 => ("DesertJarsModel", "secondMany", "I", false)
  | 64 => ("DesertJarsModel", "chainOf", "[I", true)
  | 65 => ("DesertJarsModel", "chainAt", "[I", true)
  | 66 => ("DesertJarsModel", "canWin", "[Z", true)
  | 67 => ("DesertJarsModel", "goneFrom", "[I", true)
  | 68 => ("DesertJarsModel", "goneTo", "[I", true)
  | 69 => ("DesertJarsModel", "triedAt", "[I", true)
  | 70 => ("DesertJarsModel", "leftNow", "[I", true)
  | 71 => ("DesertJarsModel", "moveFrom", "[I", true)
  | 72 => ("DesertJarsModel", "moveTo", "[I", true)
  | 73 => ("DesertJarsModel", "takenFrom", "[I", true)
  | 74 => ("DesertJarsModel", "takenTo", "[I", true)
  | 75 => ("DesertJarsModel", "goneMany", "I", false)
  | 76 => ("DesertJarsModel", "lostMany", "I", false)
  | 77 => ("DesertJarsModel", "moveMany", "I", false)
  | 78 => ("DesertJarsModel", "waysNow", "I", false)
  | 79 => ("DesertJarsModel", "leastNow", "I", false)
  | 80 => ("DesertJarsModel", "mostNow", "I", false)
  | 81 => ("DesertJarsModel", "imageOf", "[I", true)
  | _ => ("DesertJarsModel", "isKept", "Z", false)
def yC12 : Nat → FieldType := fun k => match k with
  | 0 => .array .int
  | 1 => .array .int
  | 2 => .array .int
  | 3 => .array .int
  | 4 => .array .int
  | 5 => .int
  | 6 => .int
  | 7 => .array .int
  | 8 => .array .int
  | 9 => .array .byte
  | 10 => .int
  | 11 => .int
  | 12 => .int
  | 13 => .int
  | 14 => .int
  | 15 => .int
  | 16 => .int
  | 17 => .int
  | 18 => .int
  | 19 => .int
  | 20 => .array .int
  | 21 => .array .int
  | 22 => .array .int
  | 23 => .array .int
  | 24 => .array .int
  | 25 => .array .int
  | 26 => .array .int
  | 27 => .array .int
  | 28 => .array .int
  | 29 => .array .int
  | 30 => .array .int
  | 31 => .array .int
  | 32 => .array .int
  | 33 => .array .int
  | 34 => .array .int
  | 35 => .array .int
  | 36 => .array .int
  | 37 => .int
  | 38 => .int
  | 39 => .array .int
  | 40 => .int
  | 41 => .int
  | 42 => .array .int
  | 43 => .array .int
  | 44 => .array .int
  | 45 => .array .int
  | 46 => .array .byte
  | 47 => .int
  | 48 => .array .int
  | 49 => .array .int
  | 50 => .array .int
  | 51 => .array .int
  | 52 => .array .boolean
  | 53 => .int
  | 54 => .int
  | 55 => .int
  | 56 => .int
  | 57 => .int
  | 58 => .array .int
  | 59 => .array .int
  | 60 => .array .int
  | 61 => .array .int
  | 62 => .int
  | 63 => .int
  | 64 => .array .int
  | 65 => .array .int
  | 66 => .array .boolean
  | 67 => .array .int
  | 68 => .array .int
  | 69 => .array .int
  | 70 => .array .int
  | 71 => .array .int
  | 72 => .array .int
  | 73 => .array .int
  | 74 => .array .int
  | 75 => .int
  | 76 => .int
  | 77 => .int
  | 78 => .int
  | 79 => .int
  | 80 => .int
  | 81 => .array .int
  | _ => .boolean
theorem nC12 : ∀ a, a < 83 → ∀ b, b < 83 → a ≠ b → (TC12 a).2.1 ≠ (TC12 b).2.1 := by decide +kernel
theorem tC12 : ∀ k, k < 83 → parseFieldDescriptor (TC12 k).2.2.1 = some (yC12 k) := by decide +kernel
def pC12 : List Nat := [1287, 1289, 1291, 1293, 1295, 1297, 1299, 1301, 1303, 1305, 1307, 1309, 1311, 1313, 1315, 1317, 1319, 1321, 1323, 1325, 1327, 1329, 1331, 1333, 1335, 1337, 1339, 1341, 1343, 1345, 1347, 1349, 1351, 1353, 1355, 1357, 1359, 1361, 1363, 1365, 1367, 1369, 1371, 1373, 1375, 1377, 1379, 1381, 1383, 1385, 1387, 1389, 1391, 1393, 1395, 1397, 1399, 1401, 1403, 1405, 1407, 1409, 1411, 1413, 1415, 1417, 1419, 1421, 1423, 1425, 1427, 1429, 1431, 1433, 1435, 1437, 1439, 1441, 1443, 1445, 1447, 1449, 1451]
theorem qC12 : ∀ k, k < 83 → tables_1[pC12.getD k 0]? = some (u_lay RC12 TC12 k) := by decide +kernel
theorem iC12 : ∀ w ∈ u_ws RC12 TC12 83, w ∈ tbl := fun w hw => by
  obtain ⟨k, hk, rfl⟩ := List.mem_map.mp hw
  refine in_tbl (List.mem_of_getElem? (qC12 k (List.mem_range.mp hk))) ?_
  unfold u_lay
  split <;> rfl
def clsL : List vw_C := [(RC0, TC0, 7), (RC1, TC1, 6), (RC2, TC2, 3), (RC3, TC3, 4), (RC4, TC4, 9), (RC5, TC5, 8), (RC6, TC6, 15), (RC7, TC7, 1), (RC8, TC8, 19), (RC9, TC9, 5), (RC10, TC10, 5), (RC11, TC11, 17), (RC12, TC12, 83)]
/-- the class with a number: its name, fields, how many, their types -/
def clD : Nat → String × u_T × Nat := fun k => clsL.getD k (RC0, TC0, 7)
def clY : Nat → Nat → FieldType := fun c => match c with
  | 0 => yC0
  | 1 => yC1
  | 2 => yC2
  | 3 => yC3
  | 4 => yC4
  | 5 => yC5
  | 6 => yC6
  | 7 => yC7
  | 8 => yC8
  | 9 => yC9
  | 10 => yC10
  | 11 => yC11
  | _ => yC12
theorem clN : ∀ c, c < 13 → ∀ a, a < (clD c).2.2 → ∀ b, b < (clD c).2.2 → a ≠ b → ((clD c).2.1 a).2.1 ≠ ((clD c).2.1 b).2.1 := fun c hc => match c, hc with
  | 0, _ => nC0
  | 1, _ => nC1
  | 2, _ => nC2
  | 3, _ => nC3
  | 4, _ => nC4
  | 5, _ => nC5
  | 6, _ => nC6
  | 7, _ => nC7
  | 8, _ => nC8
  | 9, _ => nC9
  | 10, _ => nC10
  | 11, _ => nC11
  | 12, _ => nC12
  | n + 13, h => absurd h (by omega)
theorem clT : ∀ c, c < 13 → ∀ k, k < (clD c).2.2 → parseFieldDescriptor ((clD c).2.1 k).2.2.1 = some (clY c k) := fun c hc => match c, hc with
  | 0, _ => tC0
  | 1, _ => tC1
  | 2, _ => tC2
  | 3, _ => tC3
  | 4, _ => tC4
  | 5, _ => tC5
  | 6, _ => tC6
  | 7, _ => tC7
  | 8, _ => tC8
  | 9, _ => tC9
  | 10, _ => tC10
  | 11, _ => tC11
  | 12, _ => tC12
  | n + 13, h => absurd h (by omega)
theorem clI : ∀ c, c < 13 → ∀ w ∈ u_ws (clD c).1 (clD c).2.1 (clD c).2.2, w ∈ tbl := fun c hc => match c, hc with
  | 0, _ => iC0
  | 1, _ => iC1
  | 2, _ => iC2
  | 3, _ => iC3
  | 4, _ => iC4
  | 5, _ => iC5
  | 6, _ => iC6
  | 7, _ => iC7
  | 8, _ => iC8
  | 9, _ => iC9
  | 10, _ => iC10
  | 11, _ => iC11
  | 12, _ => iC12
  | n + 13, h => absurd h (by omega)
theorem clG : ∀ c, c < 13 → clsL[c]? = some (clD c) := fun c hc => match c, hc with
  | 0, _ => rfl
  | 1, _ => rfl
  | 2, _ => rfl
  | 3, _ => rfl
  | 4, _ => rfl
  | 5, _ => rfl
  | 6, _ => rfl
  | 7, _ => rfl
  | 8, _ => rfl
  | 9, _ => rfl
  | 10, _ => rfl
  | 11, _ => rfl
  | 12, _ => rfl
  | n + 13, h => absurd h (by omega)
def ownL : List String := ["DesertJars$Camp", "DesertJars$Fewest", "DesertJars$Land", "DesertJars$LandReader", "DesertJars$Law", "DesertJars$Ledger", "DesertJars$Numbers", "DesertJars$Ranks", "DesertJars$Search", "DesertJars$Symmetry", "DesertJars$Tape", "DesertJars", "DesertJarsModel", "DesertJarsLaw", "java/util/Arrays", "java/lang/Integer", "java/lang/String", "java/lang/StringLatin1"]
/-- field links: by the owner's number: (pool index, class, slot, place in tables_1) -/
def flT : List (List (Nat × Nat × Nat × Nat)) := [[(73, 2, 0, 83), (50, 4, 7, 128), (9, 0, 0, 155), (15, 0, 1, 158), (28, 0, 2, 160), (37, 0, 3, 163), (18, 0, 4, 165), (40, 0, 5, 167), (43, 0, 6, 169)],
  [(32, 2, 0, 79), (12, 1, 0, 324), (18, 1, 1, 325), (22, 1, 2, 326), (25, 1, 3, 328), (46, 1, 4, 329), (28, 1, 5, 331)],
  [(18, 2, 0, 77), (9, 2, 1, 85), (15, 2, 2, 90)],
  [(55, 10, 3, 44), (33, 10, 4, 48), (58, 2, 0, 82), (25, 3, 0, 98), (13, 3, 1, 99), (18, 3, 2, 100), (22, 3, 3, 101)],
  [(61, 10, 3, 42), (44, 10, 4, 46), (30, 4, 0, 119), (34, 4, 1, 120), (11, 4, 2, 122), (15, 4, 3, 123), (18, 4, 4, 124), (21, 4, 5, 125), (38, 4, 6, 126), (24, 4, 7, 127), (27, 4, 8, 129)],
  [(48, 10, 3, 41), (35, 10, 4, 47), (66, 2, 0, 81), (135, 2, 1, 89), (87, 0, 0, 156), (98, 0, 2, 162), (9, 5, 0, 352), (15, 5, 1, 353), (18, 5, 2, 354), (27, 5, 3, 355), (101, 5, 4, 356), (102, 5, 5, 357), (108, 5, 6, 359), (111, 5, 7, 361)],
  [(48, 2, 0, 80), (9, 6, 0, 192), (15, 6, 1, 193), (18, 6, 2, 195), (83, 6, 3, 196), (21, 6, 4, 198), (24, 6, 5, 199), (27, 6, 6, 200), (30, 6, 7, 201), (33, 6, 8, 202), (36, 6, 9, 203), (39, 6, 10, 204), (90, 6, 11, 205), (104, 6, 12, 206), (65, 6, 13, 207), (68, 6, 14, 208)],
  [(11, 7, 0, 252)],
  [(47, 2, 0, 76), (106, 2, 1, 86), (12, 8, 0, 256), (18, 8, 1, 257), (22, 8, 2, 258), (25, 8, 3, 259), (28, 8, 4, 260), (31, 8, 5, 261), (34, 8, 6, 262), (103, 8, 7, 263), (37, 8, 8, 264), (40, 8, 9, 265), (43, 8, 10, 266), (132, 8, 11, 267), (59, 8, 12, 268), (97, 8, 13, 269), (60, 8, 14, 270), (63, 8, 15, 271), (90, 8, 16, 272), (87, 8, 17, 273), (138, 8, 18, 274)],
  [(33, 2, 0, 78), (51, 2, 1, 87), (9, 9, 0, 386), (15, 9, 1, 387), (18, 9, 2, 388), (22, 9, 3, 389), (29, 9, 4, 390)],
  [(9, 10, 0, 37), (15, 10, 1, 38), (19, 10, 2, 40), (22, 10, 3, 43), (25, 10, 4, 49)],
  [(114, 10, 1, 39), (321, 10, 3, 45), (131, 10, 4, 50), (155, 2, 0, 84), (187, 2, 1, 88), (134, 4, 1, 121), (161, 0, 0, 157), (106, 0, 1, 159), (110, 0, 2, 161), (303, 0, 3, 164), (296, 0, 4, 166), (178, 0, 5, 168), (184, 0, 6, 170), (212, 6, 1, 194), (222, 6, 3, 197), (202, 8, 18, 275), (232, 1, 2, 327), (228, 1, 4, 330), (230, 1, 5, 332), (280, 5, 5, 358), (283, 5, 6, 360), (286, 5, 7, 362), (10, 11, 0, 410), (21, 11, 1, 411), (28, 11, 2, 412), (32, 11, 3, 413), (35, 11, 4, 414), (38, 11, 5, 415), (44, 11, 6, 416), (48, 11, 7, 417), (54, 11, 8, 418), (58, 11, 9, 419), (61, 11, 10, 420), (299, 11, 11, 421), (67, 11, 12, 422), (74, 11, 13, 423), (81, 11, 14, 424), (88, 11, 15, 425), (95, 11, 16, 426)],
  [(7, 12, 0, 1204), (13, 12, 1, 1205), (16, 12, 2, 1206), (19, 12, 3, 1207), (22, 12, 4, 1208), (171, 12, 5, 1209), (489, 12, 6, 1210), (25, 12, 7, 1211), (28, 12, 8, 1212), (31, 12, 9, 1213), (201, 12, 10, 1214), (207, 12, 11, 1215), (210, 12, 12, 1216), (217, 12, 13, 1217), (223, 12, 14, 1218), (234, 12, 15, 1219), (230, 12, 16, 1220), (237, 12, 17, 1221), (285, 12, 18, 1222), (300, 12, 19, 1223), (35, 12, 20, 1224), (38, 12, 21, 1225), (41, 12, 22, 1226), (44, 12, 23, 1227), (47, 12, 24, 1228), (50, 12, 25, 1229), (53, 12, 26, 1230), (56, 12, 27, 1231), (59, 12, 28, 1232), (62, 12, 29, 1233), (65, 12, 30, 1234), (68, 12, 31, 1235), (71, 12, 32, 1236), (74, 12, 33, 1237), (77, 12, 34, 1238), (80, 12, 35, 1239), (83, 12, 36, 1240), (313, 12, 37, 1241), (329, 12, 38, 1242), (86, 12, 39, 1243), (362, 12, 40, 1244), (371, 12, 41, 1245), (90, 12, 42, 1246), (94, 12, 43, 1247), (97, 12, 44, 1248), (100, 12, 45, 1249), (103, 12, 46, 1250), (391, 12, 47, 1251), (106, 12, 48, 1252), (109, 12, 49, 1253), (113, 12, 50, 1254), (116, 12, 51, 1255), (119, 12, 52, 1256), (419, 12, 53, 1257), (422, 12, 54, 1258), (425, 12, 55, 1259), (428, 12, 56, 1260), (449, 12, 57, 1261), (123, 12, 58, 1262), (126, 12, 59, 1263), (129, 12, 60, 1264), (132, 12, 61, 1265), (480, 12, 62, 1266), (483, 12, 63, 1267), (135, 12, 64, 1268), (138, 12, 65, 1269), (141, 12, 66, 1270), (144, 12, 67, 1271), (147, 12, 68, 1272), (150, 12, 69, 1273), (153, 12, 70, 1274), (156, 12, 71, 1275), (159, 12, 72, 1276), (162, 12, 73, 1277), (165, 12, 74, 1278), (520, 12, 75, 1279), (523, 12, 76, 1280), (526, 12, 77, 1281), (529, 12, 78, 1282), (532, 12, 79, 1283), (535, 12, 80, 1284), (168, 12, 81, 1285), (557, 12, 82, 1286)],
  [],
  [],
  []]
theorem flC : (List.range 16).all (fun o => (flT.getD o []).all (fun x => decide (x.2.1 < 13) && (decide (x.2.2.1 < (clD x.2.1).2.2) && decide (tables_1[x.2.2.2]? = some (Cond.fieldLink (ownL.getD o "") x.1 (clD x.2.1).1 ((clD x.2.1).2.1 x.2.2.1).2.1 ((clD x.2.1).2.1 x.2.2.1).2.2.1))))) = true := by decide +kernel
def csT : List (List (Nat × Int32 × Nat)) := [[(82, 65536, 782)],
  [],
  [],
  [],
  [],
  [(107, 2147483647, 1095)],
  [],
  [],
  [],
  [],
  [],
  [(251, 2147483647, 1037), (265, 1000000, 1052), (295, 65535, 1173)],
  [(89, 262144, 1201), (93, 131072, 1202), (112, 65536, 1203), (233, 1048576, 1525), (390, -1640531527, 1714), (476, 1000000, 1813), (556, 65535, 1900)],
  [],
  [],
  [(265, 1431655765, 1120), (266, 858993459, 1121), (267, 252645135, 1122)]]
theorem csC : (List.range 16).all (fun o => (csT.getD o []).all (fun x => decide (tables_1[x.2.2]? = some (Cond.constant (ownL.getD o "") x.1 x.2.1)))) = true := by decide +kernel
