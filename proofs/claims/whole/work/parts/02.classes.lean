/-- the words of the tables that every later state keeps -/
def xm_tbl : List Cond := lw_tbl.filter goodWord
theorem xm_in {w : Cond} (h : w ∈ tables_1) (g : goodWord w = true) : w ∈ xm_tbl := List.mem_filter.mpr ⟨List.mem_append_right _ h, g⟩
theorem xm_good {w : Cond} (h : w ∈ xm_tbl) : (w.onTables && w.keeps) = true ∨ ∃ ty, w = .arrayClass ty := good_of_word (List.mem_filter.mp h).2
theorem xm_pick {ws : List Cond} (ps : List Nat) (hp : ws = ps.filterMap (fun i => tables_1[i]?)) (h : ws.all goodWord = true) : ∀ w ∈ ws, w ∈ xm_tbl := by
  intro w hw
  refine xm_in ?_ (List.all_eq_true.mp h w hw)
  rw [hp] at hw
  obtain ⟨i, -, hi⟩ := List.mem_filterMap.mp hw
  exact List.mem_of_getElem? hi
def kR0 : String := "FilterProof"
def kT0 : u_T := fun k => match k with
  | 0 => ("FilterProof", "filter", "LFilterProof$Filter;", true)
  | 1 => ("FilterProof", "tape", "LFilterProof$Tape;", true)
  | 2 => ("FilterProof", "packet", "LFilterProof$Packet;", true)
  | 3 => ("FilterProof", "producer", "LFilterProof$Producer;", true)
  | 4 => ("FilterProof", "consumer", "LFilterProof$Consumer;", true)
  | 5 => ("FilterProof", "machine", "LFilterProof$Machine;", true)
  | _ => ("FilterProof", "foundPlace", "I", false)
def kY0 : Nat → FieldType := fun k => match k with
  | 0 => (.object "FilterProof$Filter")
  | 1 => (.object "FilterProof$Tape")
  | 2 => (.object "FilterProof$Packet")
  | 3 => (.object "FilterProof$Producer")
  | 4 => (.object "FilterProof$Consumer")
  | 5 => (.object "FilterProof$Machine")
  | _ => .int
set_option maxRecDepth 20000 in
theorem kW0 : ∀ w ∈ u_ws kR0 kT0 7, w ∈ xm_tbl := xm_pick [337, 339, 341, 343, 345, 347, 349] (by decide +kernel) (by decide +kernel)
theorem kV0 : ∀ k, k < 7 → parseFieldDescriptor (kT0 k).2.2.1 = some (kY0 k) := by decide +kernel
theorem kN0 : ∀ a, a < 7 → ∀ b, b < 7 → a ≠ b → (kT0 a).2.1 ≠ (kT0 b).2.1 := by decide +kernel
def kR1 : String := "FilterProof$Filter"
def kT1 : u_T := fun k => match k with
  | 0 => ("FilterProof$Filter", "least", "I", true)
  | 1 => ("FilterProof$Filter", "instructions", "[LFilterProof$Instruction;", true)
  | _ => ("FilterProof$Filter", "count", "I", false)
def kY1 : Nat → FieldType := fun k => match k with
  | 0 => .int
  | 1 => (.array (.object "FilterProof$Instruction"))
  | _ => .int
set_option maxRecDepth 20000 in
theorem kW1 : ∀ w ∈ u_ws kR1 kT1 3, w ∈ xm_tbl := xm_pick [94, 96, 98] (by decide +kernel) (by decide +kernel)
theorem kV1 : ∀ k, k < 3 → parseFieldDescriptor (kT1 k).2.2.1 = some (kY1 k) := by decide +kernel
theorem kN1 : ∀ a, a < 3 → ∀ b, b < 3 → a ≠ b → (kT1 a).2.1 ≠ (kT1 b).2.1 := by decide +kernel
def kR2 : String := "FilterProof$Instruction"
def kT2 : u_T := fun k => match k with
  | 0 => ("FilterProof$Instruction", "operation", "I", false)
  | 1 => ("FilterProof$Instruction", "a", "I", false)
  | 2 => ("FilterProof$Instruction", "b", "I", false)
  | 3 => ("FilterProof$Instruction", "k", "I", false)
  | _ => ("FilterProof$Instruction", "t", "I", false)
def kY2 : Nat → FieldType := fun k => match k with
  | 0 => .int
  | 1 => .int
  | 2 => .int
  | 3 => .int
  | _ => .int
set_option maxRecDepth 20000 in
theorem kW2 : ∀ w ∈ u_ws kR2 kT2 5, w ∈ xm_tbl := xm_pick [70, 72, 74, 76, 78] (by decide +kernel) (by decide +kernel)
theorem kV2 : ∀ k, k < 5 → parseFieldDescriptor (kT2 k).2.2.1 = some (kY2 k) := by decide +kernel
theorem kN2 : ∀ a, a < 5 → ∀ b, b < 5 → a ≠ b → (kT2 a).2.1 ≠ (kT2 b).2.1 := by decide +kernel
def kR3 : String := "FilterProof$Tape"
def kT3 : u_T := fun k => match k with
  | 0 => ("FilterProof$Tape", "ints", "[I", true)
  | _ => ("FilterProof$Tape", "size", "I", false)
def kY3 : Nat → FieldType := fun k => match k with
  | 0 => (.array .int)
  | _ => .int
set_option maxRecDepth 20000 in
theorem kW3 : ∀ w ∈ u_ws kR3 kT3 2, w ∈ xm_tbl := xm_pick [111, 113] (by decide +kernel) (by decide +kernel)
theorem kV3 : ∀ k, k < 2 → parseFieldDescriptor (kT3 k).2.2.1 = some (kY3 k) := by decide +kernel
theorem kN3 : ∀ a, a < 2 → ∀ b, b < 2 → a ≠ b → (kT3 a).2.1 ≠ (kT3 b).2.1 := by decide +kernel
def kR4 : String := "FilterProof$Packet"
def kT4 : u_T := fun k => match k with
  | 0 => ("FilterProof$Packet", "bytes", "[B", true)
  | _ => ("FilterProof$Packet", "size", "I", false)
def kY4 : Nat → FieldType := fun k => match k with
  | 0 => (.array .byte)
  | _ => .int
set_option maxRecDepth 20000 in
theorem kW4 : ∀ w ∈ u_ws kR4 kT4 2, w ∈ xm_tbl := xm_pick [127, 129] (by decide +kernel) (by decide +kernel)
theorem kV4 : ∀ k, k < 2 → parseFieldDescriptor (kT4 k).2.2.1 = some (kY4 k) := by decide +kernel
theorem kN4 : ∀ a, a < 2 → ∀ b, b < 2 → a ≠ b → (kT4 a).2.1 ≠ (kT4 b).2.1 := by decide +kernel
def kR5 : String := "FilterProof$Producer"
def kT5 : u_T := fun k => match k with
  | 0 => ("FilterProof$Producer", "bounds", "[[J", true)
  | 1 => ("FilterProof$Producer", "reached", "[Z", true)
  | 2 => ("FilterProof$Producer", "impossible", "[Z", true)
  | 3 => ("FilterProof$Producer", "needed", "[Z", true)
  | 4 => ("FilterProof$Producer", "needCount", "[I", true)
  | 5 => ("FilterProof$Producer", "rank", "[I", true)
  | 6 => ("FilterProof$Producer", "steps", "LFilterProof$StepList;", true)
  | 7 => ("FilterProof$Producer", "finder", "LFilterProof$RowFinder;", true)
  | 8 => ("FilterProof$Producer", "filter", "LFilterProof$Filter;", false)
  | 9 => ("FilterProof$Producer", "tape", "LFilterProof$Tape;", false)
  | 10 => ("FilterProof$Producer", "writing", "Z", false)
  | _ => ("FilterProof$Producer", "fits", "Z", false)
def kY5 : Nat → FieldType := fun k => match k with
  | 0 => (.array (.array .long))
  | 1 => (.array .boolean)
  | 2 => (.array .boolean)
  | 3 => (.array .boolean)
  | 4 => (.array .int)
  | 5 => (.array .int)
  | 6 => (.object "FilterProof$StepList")
  | 7 => (.object "FilterProof$RowFinder")
  | 8 => (.object "FilterProof$Filter")
  | 9 => (.object "FilterProof$Tape")
  | 10 => .boolean
  | _ => .boolean
set_option maxRecDepth 20000 in
theorem kW5 : ∀ w ∈ u_ws kR5 kT5 12, w ∈ xm_tbl := xm_pick [241, 243, 245, 247, 249, 251, 253, 255, 257, 259, 261, 263] (by decide +kernel) (by decide +kernel)
theorem kV5 : ∀ k, k < 12 → parseFieldDescriptor (kT5 k).2.2.1 = some (kY5 k) := by decide +kernel
theorem kN5 : ∀ a, a < 12 → ∀ b, b < 12 → a ≠ b → (kT5 a).2.1 ≠ (kT5 b).2.1 := by decide +kernel
def kR6 : String := "FilterProof$StepList"
def kT6 : u_T := fun k => match k with
  | 0 => ("FilterProof$StepList", "numbers", "[I", true)
  | 1 => ("FilterProof$StepList", "froms", "[I", true)
  | 2 => ("FilterProof$StepList", "tos", "[I", true)
  | 3 => ("FilterProof$StepList", "costs", "[J", true)
  | 4 => ("FilterProof$StepList", "count", "I", false)
  | 5 => ("FilterProof$StepList", "least", "[[J", true)
  | 6 => ("FilterProof$StepList", "step", "LFilterProof$Step;", true)
  | 7 => ("FilterProof$StepList", "x", "LFilterProof$Step;", true)
  | _ => ("FilterProof$StepList", "y", "LFilterProof$Step;", true)
def kY6 : Nat → FieldType := fun k => match k with
  | 0 => (.array .int)
  | 1 => (.array .int)
  | 2 => (.array .int)
  | 3 => (.array .long)
  | 4 => .int
  | 5 => (.array (.array .long))
  | 6 => (.object "FilterProof$Step")
  | 7 => (.object "FilterProof$Step")
  | _ => (.object "FilterProof$Step")
set_option maxRecDepth 20000 in
theorem kW6 : ∀ w ∈ u_ws kR6 kT6 9, w ∈ xm_tbl := xm_pick [187, 189, 191, 193, 195, 197, 199, 201, 203] (by decide +kernel) (by decide +kernel)
theorem kV6 : ∀ k, k < 9 → parseFieldDescriptor (kT6 k).2.2.1 = some (kY6 k) := by decide +kernel
theorem kN6 : ∀ a, a < 9 → ∀ b, b < 9 → a ≠ b → (kT6 a).2.1 ≠ (kT6 b).2.1 := by decide +kernel
def kR7 : String := "FilterProof$Step"
def kT7 : u_T := fun k => match k with
  | 0 => ("FilterProof$Step", "from", "I", false)
  | 1 => ("FilterProof$Step", "to", "I", false)
  | _ => ("FilterProof$Step", "cost", "J", false)
def kY7 : Nat → FieldType := fun k => match k with
  | 0 => .int
  | 1 => .int
  | _ => .long
set_option maxRecDepth 20000 in
theorem kW7 : ∀ w ∈ u_ws kR7 kT7 3, w ∈ xm_tbl := xm_pick [163, 165, 167] (by decide +kernel) (by decide +kernel)
theorem kV7 : ∀ k, k < 3 → parseFieldDescriptor (kT7 k).2.2.1 = some (kY7 k) := by decide +kernel
theorem kN7 : ∀ a, a < 3 → ∀ b, b < 3 → a ≠ b → (kT7 a).2.1 ≠ (kT7 b).2.1 := by decide +kernel
def kR8 : String := "FilterProof$RowFinder"
def kT8 : u_T := fun k => match k with
  | 0 => ("FilterProof$RowFinder", "sums", "[[J", true)
  | 1 => ("FilterProof$RowFinder", "row", "[I", true)
  | _ => ("FilterProof$RowFinder", "size", "I", false)
def kY8 : Nat → FieldType := fun k => match k with
  | 0 => (.array (.array .long))
  | 1 => (.array .int)
  | _ => .int
set_option maxRecDepth 20000 in
theorem kW8 : ∀ w ∈ u_ws kR8 kT8 3, w ∈ xm_tbl := xm_pick [218, 220, 222] (by decide +kernel) (by decide +kernel)
theorem kV8 : ∀ k, k < 3 → parseFieldDescriptor (kT8 k).2.2.1 = some (kY8 k) := by decide +kernel
theorem kN8 : ∀ a, a < 3 → ∀ b, b < 3 → a ≠ b → (kT8 a).2.1 ≠ (kT8 b).2.1 := by decide +kernel
def kR9 : String := "FilterProof$Consumer"
def kT9 : u_T := fun k => match k with
  | 0 => ("FilterProof$Consumer", "factCount", "[I", true)
  | 1 => ("FilterProof$Consumer", "firstFact", "[I", true)
  | 2 => ("FilterProof$Consumer", "step", "LFilterProof$Step;", true)
  | 3 => ("FilterProof$Consumer", "x", "LFilterProof$Step;", true)
  | 4 => ("FilterProof$Consumer", "y", "LFilterProof$Step;", true)
  | 5 => ("FilterProof$Consumer", "filter", "LFilterProof$Filter;", false)
  | 6 => ("FilterProof$Consumer", "tape", "LFilterProof$Tape;", false)
  | 7 => ("FilterProof$Consumer", "next", "I", false)
  | 8 => ("FilterProof$Consumer", "latest", "I", false)
  | 9 => ("FilterProof$Consumer", "fault", "I", false)
  | _ => ("FilterProof$Consumer", "faultPlace", "I", false)
def kY9 : Nat → FieldType := fun k => match k with
  | 0 => (.array .int)
  | 1 => (.array .int)
  | 2 => (.object "FilterProof$Step")
  | 3 => (.object "FilterProof$Step")
  | 4 => (.object "FilterProof$Step")
  | 5 => (.object "FilterProof$Filter")
  | 6 => (.object "FilterProof$Tape")
  | 7 => .int
  | 8 => .int
  | 9 => .int
  | _ => .int
set_option maxRecDepth 20000 in
theorem kW9 : ∀ w ∈ u_ws kR9 kT9 11, w ∈ xm_tbl := xm_pick [286, 288, 290, 292, 294, 296, 298, 300, 302, 304, 306] (by decide +kernel) (by decide +kernel)
theorem kV9 : ∀ k, k < 11 → parseFieldDescriptor (kT9 k).2.2.1 = some (kY9 k) := by decide +kernel
theorem kN9 : ∀ a, a < 11 → ∀ b, b < 11 → a ≠ b → (kT9 a).2.1 ≠ (kT9 b).2.1 := by decide +kernel
def kR10 : String := "FilterProof$Machine"
def kT10 : u_T := fun k => match k with
  | 0 => ("FilterProof$Machine", "registers", "[I", true)
  | 1 => ("FilterProof$Machine", "scratch", "[B", true)
  | 2 => ("FilterProof$Machine", "returned", "I", false)
  | _ => ("FilterProof$Machine", "done", "I", false)
def kY10 : Nat → FieldType := fun k => match k with
  | 0 => (.array .int)
  | 1 => (.array .byte)
  | 2 => .int
  | _ => .int
set_option maxRecDepth 20000 in
theorem kW10 : ∀ w ∈ u_ws kR10 kT10 4, w ∈ xm_tbl := xm_pick [321, 323, 325, 327] (by decide +kernel) (by decide +kernel)
theorem kV10 : ∀ k, k < 4 → parseFieldDescriptor (kT10 k).2.2.1 = some (kY10 k) := by decide +kernel
theorem kN10 : ∀ a, a < 4 → ∀ b, b < 4 → a ≠ b → (kT10 a).2.1 ≠ (kT10 b).2.1 := by decide +kernel
def kR11 : String := "FilterProofModel"
def kT11 : u_T := fun k => match k with
  | 0 => ("FilterProofModel", "least", "I", true)
  | 1 => ("FilterProofModel", "count", "I", false)
  | 2 => ("FilterProofModel", "ops", "[I", true)
  | 3 => ("FilterProofModel", "as", "[I", true)
  | 4 => ("FilterProofModel", "bs", "[I", true)
  | 5 => ("FilterProofModel", "ks", "[I", true)
  | 6 => ("FilterProofModel", "ts", "[I", true)
  | 7 => ("FilterProofModel", "tape", "[I", true)
  | 8 => ("FilterProofModel", "size", "I", false)
  | 9 => ("FilterProofModel", "place", "I", false)
  | 10 => ("FilterProofModel", "packet", "[B", true)
  | 11 => ("FilterProofModel", "length", "I", false)
  | 12 => ("FilterProofModel", "result", "I", false)
  | 13 => ("FilterProofModel", "steps", "I", false)
  | 14 => ("FilterProofModel", "stepCount", "I", false)
  | 15 => ("FilterProofModel", "stepNumbers", "[I", true)
  | 16 => ("FilterProofModel", "stepUs", "[I", true)
  | 17 => ("FilterProofModel", "stepVs", "[I", true)
  | 18 => ("FilterProofModel", "stepCs", "[J", true)
  | 19 => ("FilterProofModel", "strict", "Z", false)
  | 20 => ("FilterProofModel", "bounds", "[J", true)
  | 21 => ("FilterProofModel", "live", "[Z", true)
  | 22 => ("FilterProofModel", "impossible", "[Z", true)
  | 23 => ("FilterProofModel", "made", "[J", true)
  | 24 => ("FilterProofModel", "rests", "[J", true)
  | 25 => ("FilterProofModel", "chosen", "[I", true)
  | 26 => ("FilterProofModel", "chosenCount", "I", false)
  | 27 => ("FilterProofModel", "needed", "[Z", true)
  | 28 => ("FilterProofModel", "draft", "[I", true)
  | 29 => ("FilterProofModel", "drafted", "I", false)
  | 30 => ("FilterProofModel", "cursor", "I", false)
  | 31 => ("FilterProofModel", "fault", "I", false)
  | 32 => ("FilterProofModel", "factsAt", "[I", true)
  | 33 => ("FilterProofModel", "factCounts", "[I", true)
  | 34 => ("FilterProofModel", "registers", "[I", true)
  | 35 => ("FilterProofModel", "scratch", "[I", true)
  | _ => ("FilterProofModel", "next", "I", false)
def kY11 : Nat → FieldType := fun k => match k with
  | 0 => .int
  | 1 => .int
  | 2 => (.array .int)
  | 3 => (.array .int)
  | 4 => (.array .int)
  | 5 => (.array .int)
  | 6 => (.array .int)
  | 7 => (.array .int)
  | 8 => .int
  | 9 => .int
  | 10 => (.array .byte)
  | 11 => .int
  | 12 => .int
  | 13 => .int
  | 14 => .int
  | 15 => (.array .int)
  | 16 => (.array .int)
  | 17 => (.array .int)
  | 18 => (.array .long)
  | 19 => .boolean
  | 20 => (.array .long)
  | 21 => (.array .boolean)
  | 22 => (.array .boolean)
  | 23 => (.array .long)
  | 24 => (.array .long)
  | 25 => (.array .int)
  | 26 => .int
  | 27 => (.array .boolean)
  | 28 => (.array .int)
  | 29 => .int
  | 30 => .int
  | 31 => .int
  | 32 => (.array .int)
  | 33 => (.array .int)
  | 34 => (.array .int)
  | 35 => (.array .int)
  | _ => .int
set_option maxRecDepth 20000 in
theorem kW11 : ∀ w ∈ u_ws kR11 kT11 37, w ∈ xm_tbl := xm_pick [799, 801, 803, 805, 807, 809, 811, 813, 815, 817, 819, 821, 823, 825, 827, 829, 831, 833, 835, 837, 839, 841, 843, 845, 847, 849, 851, 853, 855, 857, 859, 861, 863, 865, 867, 869, 871] (by decide +kernel) (by decide +kernel)
theorem kV11 : ∀ k, k < 37 → parseFieldDescriptor (kT11 k).2.2.1 = some (kY11 k) := by decide +kernel
theorem kN11 : ∀ a, a < 37 → ∀ b, b < 37 → a ≠ b → (kT11 a).2.1 ≠ (kT11 b).2.1 := by decide +kernel
def xm_cl : List vw_C := [(kR0, kT0, 7), (kR1, kT1, 3), (kR2, kT2, 5), (kR3, kT3, 2), (kR4, kT4, 2), (kR5, kT5, 12), (kR6, kT6, 9), (kR7, kT7, 3), (kR8, kT8, 3), (kR9, kT9, 11), (kR10, kT10, 4), (kR11, kT11, 37)]
def xm_ft : Nat → Nat → FieldType := fun c => match c with
  | 0 => kY0
  | 1 => kY1
  | 2 => kY2
  | 3 => kY3
  | 4 => kY4
  | 5 => kY5
  | 6 => kY6
  | 7 => kY7
  | 8 => kY8
  | 9 => kY9
  | 10 => kY10
  | _ => kY11
/-- what is said of a class: its words stand in the tables, its types, its names are apart -/
def xm_ok (ci : Nat) (r : vw_C) : Prop := (∀ w ∈ u_ws r.1 r.2.1 r.2.2, w ∈ xm_tbl) ∧ (∀ k, k < r.2.2 → parseFieldDescriptor (r.2.1 k).2.2.1 = some (xm_ft ci k)) ∧ ∀ a, a < r.2.2 → ∀ b, b < r.2.2 → a ≠ b → (r.2.1 a).2.1 ≠ (r.2.1 b).2.1
theorem xm_cl_ok : ∀ (ci : Nat) (r : vw_C), xm_cl[ci]? = some r → xm_ok ci r
  | 0, _, h => by cases h; exact ⟨kW0, kV0, kN0⟩
  | 1, _, h => by cases h; exact ⟨kW1, kV1, kN1⟩
  | 2, _, h => by cases h; exact ⟨kW2, kV2, kN2⟩
  | 3, _, h => by cases h; exact ⟨kW3, kV3, kN3⟩
  | 4, _, h => by cases h; exact ⟨kW4, kV4, kN4⟩
  | 5, _, h => by cases h; exact ⟨kW5, kV5, kN5⟩
  | 6, _, h => by cases h; exact ⟨kW6, kV6, kN6⟩
  | 7, _, h => by cases h; exact ⟨kW7, kV7, kN7⟩
  | 8, _, h => by cases h; exact ⟨kW8, kV8, kN8⟩
  | 9, _, h => by cases h; exact ⟨kW9, kV9, kN9⟩
  | 10, _, h => by cases h; exact ⟨kW10, kV10, kN10⟩
  | 11, _, h => by cases h; exact ⟨kW11, kV11, kN11⟩
  | n + 12, _, h => by simp [xm_cl] at h
