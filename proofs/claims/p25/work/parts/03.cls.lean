-- ===== the classes of the world: names, fields in the order of the slots =====
def gN0 : String := "DropSignals$Cards"
def gF0 : u_T := fun k => match k with
  | 0 => ("DropSignals$Cards", "owners", "[I", true)
  | 1 => ("DropSignals$Cards", "times", "[I", true)
  | 2 => ("DropSignals$Cards", "order", "[I", true)
  | _ => ("DropSignals$Cards", "laid", "I", false)
def gX0 : Nat → FieldType := fun k => match k with
  | 0 => .array .int
  | 1 => .array .int
  | 2 => .array .int
  | _ => .int
theorem gD0 : ∀ a, a < 4 → ∀ b, b < 4 → a ≠ b → (gF0 a).2.1 ≠ (gF0 b).2.1 := by decide +kernel
theorem gY0 : ∀ k, k < 4 → parseFieldDescriptor (gF0 k).2.2.1 = some (gX0 k) := by decide +kernel
def gN1 : String := "DropSignals$Drops"
def gF1 : u_T := fun k => match k with
  | 0 => ("DropSignals$Drops", "counts", "[I", true)
  | 1 => ("DropSignals$Drops", "firsts", "[I", true)
  | 2 => ("DropSignals$Drops", "signals", "[I", true)
  | _ => ("DropSignals$Drops", "nones", "[I", true)
def gX1 : Nat → FieldType := fun k => match k with
  | 0 => .array .int
  | 1 => .array .int
  | 2 => .array .int
  | _ => .array .int
theorem gD1 : ∀ a, a < 4 → ∀ b, b < 4 → a ≠ b → (gF1 a).2.1 ≠ (gF1 b).2.1 := by decide +kernel
theorem gY1 : ∀ k, k < 4 → parseFieldDescriptor (gF1 k).2.2.1 = some (gX1 k) := by decide +kernel
def gN2 : String := "DropSignals$Evening"
def gF2 : u_T := fun k => match k with
  | 0 => ("DropSignals$Evening", "cards", "LDropSignals$Cards;", true)
  | 1 => ("DropSignals$Evening", "drops", "LDropSignals$Drops;", true)
  | 2 => ("DropSignals$Evening", "tricks", "[I", true)
  | 3 => ("DropSignals$Evening", "scores", "[I", true)
  | 4 => ("DropSignals$Evening", "deals", "I", false)
  | 5 => ("DropSignals$Evening", "phase", "I", false)
  | 6 => ("DropSignals$Evening", "turn", "I", false)
  | 7 => ("DropSignals$Evening", "level", "I", false)
  | 8 => ("DropSignals$Evening", "suit", "I", false)
  | 9 => ("DropSignals$Evening", "bidder", "I", false)
  | 10 => ("DropSignals$Evening", "passes", "I", false)
  | 11 => ("DropSignals$Evening", "signals", "I", false)
  | 12 => ("DropSignals$Evening", "trueSignals", "I", false)
  | _ => ("DropSignals$Evening", "refused", "I", false)
def gX2 : Nat → FieldType := fun k => match k with
  | 0 => .object "DropSignals$Cards"
  | 1 => .object "DropSignals$Drops"
  | 2 => .array .int
  | 3 => .array .int
  | 4 => .int
  | 5 => .int
  | 6 => .int
  | 7 => .int
  | 8 => .int
  | 9 => .int
  | 10 => .int
  | 11 => .int
  | 12 => .int
  | _ => .int
theorem gD2 : ∀ a, a < 14 → ∀ b, b < 14 → a ≠ b → (gF2 a).2.1 ≠ (gF2 b).2.1 := by decide +kernel
theorem gY2 : ∀ k, k < 14 → parseFieldDescriptor (gF2 k).2.2.1 = some (gX2 k) := by decide +kernel
def gN3 : String := "DropSignals$Memory"
def gF3 : u_T := fun k => match k with
  | 0 => ("DropSignals$Memory", "states", "[LDropSignals$Evening;", true)
  | 1 => ("DropSignals$Memory", "next", "I", false)
  | _ => ("DropSignals$Memory", "count", "I", false)
def gX3 : Nat → FieldType := fun k => match k with
  | 0 => .array (.object "DropSignals$Evening")
  | 1 => .int
  | _ => .int
theorem gD3 : ∀ a, a < 3 → ∀ b, b < 3 → a ≠ b → (gF3 a).2.1 ≠ (gF3 b).2.1 := by decide +kernel
theorem gY3 : ∀ k, k < 3 → parseFieldDescriptor (gF3 k).2.2.1 = some (gX3 k) := by decide +kernel
def gN4 : String := "DropSignals$OpenCards"
def gF4 : u_T := fun k => match k with
  | 0 => ("DropSignals$OpenCards", "hands", "[I", true)
  | 1 => ("DropSignals$OpenCards", "row", "[I", true)
  | 2 => ("DropSignals$OpenCards", "placed", "I", false)
  | 3 => ("DropSignals$OpenCards", "total", "I", false)
  | 4 => ("DropSignals$OpenCards", "leader", "I", false)
  | 5 => ("DropSignals$OpenCards", "side", "I", false)
  | 6 => ("DropSignals$OpenCards", "trumps", "I", false)
  | _ => ("DropSignals$OpenCards", "cuts", "Z", false)
def gX4 : Nat → FieldType := fun k => match k with
  | 0 => .array .int
  | 1 => .array .int
  | 2 => .int
  | 3 => .int
  | 4 => .int
  | 5 => .int
  | 6 => .int
  | _ => .boolean
theorem gD4 : ∀ a, a < 8 → ∀ b, b < 8 → a ≠ b → (gF4 a).2.1 ≠ (gF4 b).2.1 := by decide +kernel
theorem gY4 : ∀ k, k < 8 → parseFieldDescriptor (gF4 k).2.2.1 = some (gX4 k) := by decide +kernel
def gN5 : String := "DropSignals$Slots"
def gF5 : u_T := fun k => match k with
  | 0 => ("DropSignals$Slots", "states", "[LDropSignals$Evening;", true)
  | _ => ("DropSignals$Slots", "used", "[Z", true)
def gX5 : Nat → FieldType := fun k => match k with
  | 0 => .array (.object "DropSignals$Evening")
  | _ => .array .boolean
theorem gD5 : ∀ a, a < 2 → ∀ b, b < 2 → a ≠ b → (gF5 a).2.1 ≠ (gF5 b).2.1 := by decide +kernel
theorem gY5 : ∀ k, k < 2 → parseFieldDescriptor (gF5 k).2.2.1 = some (gX5 k) := by decide +kernel
def gN6 : String := "DropSignals$Writing"
def gF6 : u_T := fun k => match k with
  | 0 => ("DropSignals$Writing", "signs", "[I", true)
  | _ => ("DropSignals$Writing", "length", "I", false)
def gX6 : Nat → FieldType := fun k => match k with
  | 0 => .array .int
  | _ => .int
theorem gD6 : ∀ a, a < 2 → ∀ b, b < 2 → a ≠ b → (gF6 a).2.1 ≠ (gF6 b).2.1 := by decide +kernel
theorem gY6 : ∀ k, k < 2 → parseFieldDescriptor (gF6 k).2.2.1 = some (gX6 k) := by decide +kernel
def gN7 : String := "DropSignals"
def gF7 : u_T := fun k => match k with
  | 0 => ("DropSignals", "now", "LDropSignals$Evening;", true)
  | 1 => ("DropSignals", "copy", "LDropSignals$Evening;", true)
  | 2 => ("DropSignals", "memory", "LDropSignals$Memory;", true)
  | 3 => ("DropSignals", "slots", "LDropSignals$Slots;", true)
  | 4 => ("DropSignals", "writing", "LDropSignals$Writing;", true)
  | _ => ("DropSignals", "openCards", "LDropSignals$OpenCards;", true)
def gX7 : Nat → FieldType := fun k => match k with
  | 0 => .object "DropSignals$Evening"
  | 1 => .object "DropSignals$Evening"
  | 2 => .object "DropSignals$Memory"
  | 3 => .object "DropSignals$Slots"
  | 4 => .object "DropSignals$Writing"
  | _ => .object "DropSignals$OpenCards"
theorem gD7 : ∀ a, a < 6 → ∀ b, b < 6 → a ≠ b → (gF7 a).2.1 ≠ (gF7 b).2.1 := by decide +kernel
theorem gY7 : ∀ k, k < 6 → parseFieldDescriptor (gF7 k).2.2.1 = some (gX7 k) := by decide +kernel
abbrev gCl : List vw_C := [(gN0, gF0, 4), (gN1, gF1, 4), (gN2, gF2, 14), (gN3, gF3, 3), (gN4, gF4, 8), (gN5, gF5, 2), (gN6, gF6, 2), (gN7, gF7, 6)]
