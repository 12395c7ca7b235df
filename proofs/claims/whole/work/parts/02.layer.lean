-- names of the classes, their fields
def RX0 : String := "SignSquares$Polynomial"
def TX0 : u_T := fun k => match k with
  | 0 => ("SignSquares$Polynomial", "coefficients", "[J", true)
  | 1 => ("SignSquares$Polynomial", "part", "[J", true)
  | 2 => ("SignSquares$Polynomial", "product", "[J", true)
  | _ => ("SignSquares$Polynomial", "degree", "I", false)
def tyX0 : Nat → FieldType := fun k => match k with
  | 0 => .array .long
  | 1 => .array .long
  | 2 => .array .long
  | _ => .int
def RX1 : String := "SignSquares$Row"
def TX1 : u_T := fun k => match k with
  | 0 => ("SignSquares$Row", "ints", "[I", true)
  | _ => ("SignSquares$Row", "size", "I", false)
def tyX1 : Nat → FieldType := fun k => match k with
  | 0 => .array .int
  | _ => .int
def RX2 : String := "SignSquares$Table"
def TX2 : u_T := fun k => match k with
  | 0 => ("SignSquares$Table", "plus", "[I", true)
  | 1 => ("SignSquares$Table", "minus", "[I", true)
  | 2 => ("SignSquares$Table", "n", "I", false)
  | _ => ("SignSquares$Table", "kind", "I", false)
def tyX2 : Nat → FieldType := fun k => match k with
  | 0 => .array .int
  | 1 => .array .int
  | 2 => .int
  | _ => .int
def RX3 : String := "SignSquares"
def TX3 : u_T := fun k => match k with
  | 0 => ("SignSquares", "rows", "[LSignSquares$Row;", true)
  | 1 => ("SignSquares", "tables", "[LSignSquares$Table;", true)
  | 2 => ("SignSquares", "work", "LSignSquares$Table;", true)
  | 3 => ("SignSquares", "otherWork", "LSignSquares$Table;", true)
  | 4 => ("SignSquares", "polynomial", "LSignSquares$Polynomial;", true)
  | 5 => ("SignSquares", "tally", "[I", true)
  | 6 => ("SignSquares", "echoKeys", "[J", true)
  | 7 => ("SignSquares", "findingCounts", "[I", true)
  | 8 => ("SignSquares", "latestFinding", "I", false)
  | 9 => ("SignSquares", "latestAsked", "I", false)
  | 10 => ("SignSquares", "latestWorth", "J", false)
  | 11 => ("SignSquares", "latestUpper", "J", false)
  | _ => ("SignSquares", "latestLower", "J", false)
def tyX3 : Nat → FieldType := fun k => match k with
  | 0 => .array (.object "SignSquares$Row")
  | 1 => .array (.object "SignSquares$Table")
  | 2 => .object "SignSquares$Table"
  | 3 => .object "SignSquares$Table"
  | 4 => .object "SignSquares$Polynomial"
  | 5 => .array .int
  | 6 => .array .long
  | 7 => .array .int
  | 8 => .int
  | 9 => .int
  | 10 => .long
  | 11 => .long
  | _ => .long
def RX4 : String := "SignSquaresModel"
def TX4 : u_T := fun k => match k with
  | 0 => ("SignSquaresModel", "finding", "I", false)
  | 1 => ("SignSquaresModel", "findings", "[I", true)
  | 2 => ("SignSquaresModel", "asked", "I", false)
  | 3 => ("SignSquaresModel", "worthTold", "J", false)
  | 4 => ("SignSquaresModel", "upper", "J", false)
  | 5 => ("SignSquaresModel", "lower", "J", false)
  | 6 => ("SignSquaresModel", "sizes", "[I", true)
  | 7 => ("SignSquaresModel", "rows", "[I", true)
  | 8 => ("SignSquaresModel", "moving", "[I", true)
  | 9 => ("SignSquaresModel", "wide", "[I", true)
  | 10 => ("SignSquaresModel", "numbers", "[I", true)
  | 11 => ("SignSquaresModel", "kinds", "[I", true)
  | 12 => ("SignSquaresModel", "built", "[I", true)
  | 13 => ("SignSquaresModel", "parts", "[I", true)
  | 14 => ("SignSquaresModel", "cleared", "[J", true)
  | 15 => ("SignSquaresModel", "oneProfile", "[I", true)
  | 16 => ("SignSquaresModel", "otherProfile", "[I", true)
  | 17 => ("SignSquaresModel", "echoes", "[I", true)
  | 18 => ("SignSquaresModel", "power", "[J", true)
  | 19 => ("SignSquaresModel", "product", "[J", true)
  | 20 => ("SignSquaresModel", "form", "[J", true)
  | 21 => ("SignSquaresModel", "quotient", "[J", true)
  | _ => ("SignSquaresModel", "h", "J", false)
def tyX4 : Nat → FieldType := fun k => match k with
  | 0 => .int
  | 1 => .array .int
  | 2 => .int
  | 3 => .long
  | 4 => .long
  | 5 => .long
  | 6 => .array .int
  | 7 => .array .int
  | 8 => .array .int
  | 9 => .array .int
  | 10 => .array .int
  | 11 => .array .int
  | 12 => .array .int
  | 13 => .array .int
  | 14 => .array .long
  | 15 => .array .int
  | 16 => .array .int
  | 17 => .array .int
  | 18 => .array .long
  | 19 => .array .long
  | 20 => .array .long
  | 21 => .array .long
  | _ => .long
theorem nmX0 : ∀ a, a < 4 → ∀ b, b < 4 → a ≠ b → (TX0 a).2.1 ≠ (TX0 b).2.1 := by decide +kernel
theorem tyX0_ok : ∀ k, k < 4 → parseFieldDescriptor (TX0 k).2.2.1 = some (tyX0 k) := by decide +kernel
theorem nmX1 : ∀ a, a < 2 → ∀ b, b < 2 → a ≠ b → (TX1 a).2.1 ≠ (TX1 b).2.1 := by decide +kernel
theorem tyX1_ok : ∀ k, k < 2 → parseFieldDescriptor (TX1 k).2.2.1 = some (tyX1 k) := by decide +kernel
theorem nmX2 : ∀ a, a < 4 → ∀ b, b < 4 → a ≠ b → (TX2 a).2.1 ≠ (TX2 b).2.1 := by decide +kernel
theorem tyX2_ok : ∀ k, k < 4 → parseFieldDescriptor (TX2 k).2.2.1 = some (tyX2 k) := by decide +kernel
theorem nmX3 : ∀ a, a < 13 → ∀ b, b < 13 → a ≠ b → (TX3 a).2.1 ≠ (TX3 b).2.1 := by decide +kernel
theorem tyX3_ok : ∀ k, k < 13 → parseFieldDescriptor (TX3 k).2.2.1 = some (tyX3 k) := by decide +kernel
theorem nmX4 : ∀ a, a < 23 → ∀ b, b < 23 → a ≠ b → (TX4 a).2.1 ≠ (TX4 b).2.1 := by decide +kernel
theorem tyX4_ok : ∀ k, k < 23 → parseFieldDescriptor (TX4 k).2.2.1 = some (tyX4 k) := by decide +kernel
-- the words that keep
def zGT : List Cond := lw_tbl.filter goodWord
theorem zgood {w : Cond} (h : w ∈ zGT) : (w.onTables && w.keeps) = true ∨ ∃ ty, w = .arrayClass ty := good_of_word (List.mem_filter.mp h).2
theorem zmem {w : Cond} (i : Nat) (h : lw_tbl[i]? = some w) (hg : goodWord w = true) : w ∈ zGT := List.mem_filter.mpr ⟨List.mem_of_getElem? h, hg⟩
theorem inX0 : ∀ w ∈ u_ws RX0 TX0 4, w ∈ zGT := by decide +kernel
theorem inX1 : ∀ w ∈ u_ws RX1 TX1 2, w ∈ zGT := by decide +kernel
theorem inX2 : ∀ w ∈ u_ws RX2 TX2 4, w ∈ zGT := by decide +kernel
theorem inX3 : ∀ w ∈ u_ws RX3 TX3 13, w ∈ zGT := by decide +kernel
theorem inX4 : ∀ w ∈ u_ws RX4 TX4 23, w ∈ zGT := by decide +kernel
