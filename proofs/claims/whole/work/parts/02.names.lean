/-! names: classes, their fields (printed), and the words of the tables that rows use -/
def RX0 : String := "CanoeSides$Boat"
def TX0 : u_T := fun k => match k with
  | 0 => ("CanoeSides$Boat", "spot", "I", false)
  | 1 => ("CanoeSides$Boat", "strokes", "I", false)
  | _ => ("CanoeSides$Boat", "seedNow", "I", false)
def tyX0 : Nat → FieldType := fun k => match k with
  | 0 => .int
  | 1 => .int
  | _ => .int
theorem nmX0 : ∀ a, a < 3 → ∀ b, b < 3 → a ≠ b → (TX0 a).2.1 ≠ (TX0 b).2.1 := by decide +kernel
theorem tyX0_ok : ∀ k, k < 3 → parseFieldDescriptor (TX0 k).2.2.1 = some (tyX0 k) := by decide +kernel
def RX1 : String := "CanoeSides$Calling"
def TX1 : u_T := fun k => match k with
  | 0 => ("CanoeSides$Calling", "before", "[I", true)
  | 1 => ("CanoeSides$Calling", "least", "[I", true)
  | 2 => ("CanoeSides$Calling", "passed", "[I", true)
  | 3 => ("CanoeSides$Calling", "sources", "[I", true)
  | 4 => ("CanoeSides$Calling", "pass", "I", false)
  | 5 => ("CanoeSides$Calling", "soonest", "I", false)
  | 6 => ("CanoeSides$Calling", "callsMade", "I", false)
  | 7 => ("CanoeSides$Calling", "strokes", "I", false)
  | _ => ("CanoeSides$Calling", "lookedFor", "I", false)
def tyX1 : Nat → FieldType := fun k => match k with
  | 0 => .array .int
  | 1 => .array .int
  | 2 => .array .int
  | 3 => .array .int
  | 4 => .int
  | 5 => .int
  | 6 => .int
  | 7 => .int
  | _ => .int
theorem nmX1 : ∀ a, a < 9 → ∀ b, b < 9 → a ≠ b → (TX1 a).2.1 ≠ (TX1 b).2.1 := by decide +kernel
theorem tyX1_ok : ∀ k, k < 9 → parseFieldDescriptor (TX1 k).2.2.1 = some (tyX1 k) := by decide +kernel
def RX2 : String := "CanoeSides$Crew"
def TX2 : u_T := fun k => match k with
  | 0 => ("CanoeSides$Crew", "waters", "LCanoeSides$Waters;", true)
  | 1 => ("CanoeSides$Crew", "turns", "[I", true)
  | _ => ("CanoeSides$Crew", "pushes", "[I", true)
def tyX2 : Nat → FieldType := fun k => match k with
  | 0 => .object "CanoeSides$Waters"
  | 1 => .array .int
  | _ => .array .int
theorem nmX2 : ∀ a, a < 3 → ∀ b, b < 3 → a ≠ b → (TX2 a).2.1 ≠ (TX2 b).2.1 := by decide +kernel
theorem tyX2_ok : ∀ k, k < 3 → parseFieldDescriptor (TX2 k).2.2.1 = some (tyX2 k) := by decide +kernel
def RX3 : String := "CanoeSides$Gusts"
def TX3 : u_T := fun k => match k with
  | 0 => ("CanoeSides$Gusts", "worst", "[I", true)
  | 1 => ("CanoeSides$Gusts", "strokes", "I", false)
  | 2 => ("CanoeSides$Gusts", "firstPair", "I", false)
  | _ => ("CanoeSides$Gusts", "lookedFor", "I", false)
def tyX3 : Nat → FieldType := fun k => match k with
  | 0 => .array .int
  | 1 => .int
  | 2 => .int
  | _ => .int
theorem nmX3 : ∀ a, a < 4 → ∀ b, b < 4 → a ≠ b → (TX3 a).2.1 ≠ (TX3 b).2.1 := by decide +kernel
theorem tyX3_ok : ∀ k, k < 4 → parseFieldDescriptor (TX3 k).2.2.1 = some (tyX3 k) := by decide +kernel
def RX4 : String := "CanoeSides$Lines"
def TX4 : u_T := fun k => match k with
  | 0 => ("CanoeSides$Lines", "squares", "[I", true)
  | 1 => ("CanoeSides$Lines", "ways", "[I", true)
  | 2 => ("CanoeSides$Lines", "pairs", "[I", true)
  | 3 => ("CanoeSides$Lines", "places", "[I", true)
  | 4 => ("CanoeSides$Lines", "marks", "I", false)
  | _ => ("CanoeSides$Lines", "entries", "I", false)
def tyX4 : Nat → FieldType := fun k => match k with
  | 0 => .array .int
  | 1 => .array .int
  | 2 => .array .int
  | 3 => .array .int
  | 4 => .int
  | _ => .int
theorem nmX4 : ∀ a, a < 6 → ∀ b, b < 6 → a ≠ b → (TX4 a).2.1 ≠ (TX4 b).2.1 := by decide +kernel
theorem tyX4_ok : ∀ k, k < 6 → parseFieldDescriptor (TX4 k).2.2.1 = some (tyX4 k) := by decide +kernel
def RX5 : String := "CanoeSides$Log"
def TX5 : u_T := fun k => match k with
  | 0 => ("CanoeSides$Log", "spots", "[I", true)
  | 1 => ("CanoeSides$Log", "next", "I", false)
  | _ => ("CanoeSides$Log", "kept", "I", false)
def tyX5 : Nat → FieldType := fun k => match k with
  | 0 => .array .int
  | 1 => .int
  | _ => .int
theorem nmX5 : ∀ a, a < 3 → ∀ b, b < 3 → a ≠ b → (TX5 a).2.1 ≠ (TX5 b).2.1 := by decide +kernel
theorem tyX5_ok : ∀ k, k < 3 → parseFieldDescriptor (TX5 k).2.2.1 = some (tyX5 k) := by decide +kernel
def RX6 : String := "CanoeSides$Reader"
def TX6 : u_T := fun k => match k with
  | 0 => ("CanoeSides$Reader", "letters", "[I", true)
  | 1 => ("CanoeSides$Reader", "end", "I", true)
  | 2 => ("CanoeSides$Reader", "course", "LCanoeSides$River;", true)
  | 3 => ("CanoeSides$Reader", "at", "I", false)
  | 4 => ("CanoeSides$Reader", "clausesRead", "I", false)
  | 5 => ("CanoeSides$Reader", "numberPlace", "I", false)
  | 6 => ("CanoeSides$Reader", "fault", "I", false)
  | _ => ("CanoeSides$Reader", "faultPlace", "I", false)
def tyX6 : Nat → FieldType := fun k => match k with
  | 0 => .array .int
  | 1 => .int
  | 2 => .object "CanoeSides$River"
  | 3 => .int
  | 4 => .int
  | 5 => .int
  | 6 => .int
  | _ => .int
theorem nmX6 : ∀ a, a < 8 → ∀ b, b < 8 → a ≠ b → (TX6 a).2.1 ≠ (TX6 b).2.1 := by decide +kernel
theorem tyX6_ok : ∀ k, k < 8 → parseFieldDescriptor (TX6 k).2.2.1 = some (tyX6 k) := by decide +kernel
def RX7 : String := "CanoeSides$River"
def TX7 : u_T := fun k => match k with
  | 0 => ("CanoeSides$River", "wide", "I", false)
  | 1 => ("CanoeSides$River", "high", "I", false)
  | 2 => ("CanoeSides$River", "kinds", "[I", true)
  | 3 => ("CanoeSides$River", "strengthInFront", "I", false)
  | 4 => ("CanoeSides$River", "strengthBehind", "I", false)
  | 5 => ("CanoeSides$River", "turnPart", "I", false)
  | 6 => ("CanoeSides$River", "pushPart", "I", false)
  | 7 => ("CanoeSides$River", "startSpot", "I", false)
  | 8 => ("CanoeSides$River", "goalSquare", "I", false)
  | 9 => ("CanoeSides$River", "goalHeading", "I", false)
  | 10 => ("CanoeSides$River", "windWay", "I", false)
  | 11 => ("CanoeSides$River", "windEvery", "I", false)
  | _ => ("CanoeSides$River", "habits", "[I", true)
def tyX7 : Nat → FieldType := fun k => match k with
  | 0 => .int
  | 1 => .int
  | 2 => .array .int
  | 3 => .int
  | 4 => .int
  | 5 => .int
  | 6 => .int
  | 7 => .int
  | 8 => .int
  | 9 => .int
  | 10 => .int
  | 11 => .int
  | _ => .array .int
theorem nmX7 : ∀ a, a < 13 → ∀ b, b < 13 → a ≠ b → (TX7 a).2.1 ≠ (TX7 b).2.1 := by decide +kernel
theorem tyX7_ok : ∀ k, k < 13 → parseFieldDescriptor (TX7 k).2.2.1 = some (tyX7 k) := by decide +kernel
def RX8 : String := "CanoeSides$Search"
def TX8 : u_T := fun k => match k with
  | 0 => ("CanoeSides$Search", "cameBy", "[I", true)
  | 1 => ("CanoeSides$Search", "queue", "[I", true)
  | 2 => ("CanoeSides$Search", "row", "[I", true)
  | 3 => ("CanoeSides$Search", "queued", "I", false)
  | 4 => ("CanoeSides$Search", "found", "I", false)
  | 5 => ("CanoeSides$Search", "strokes", "I", false)
  | _ => ("CanoeSides$Search", "lookedFor", "I", false)
def tyX8 : Nat → FieldType := fun k => match k with
  | 0 => .array .int
  | 1 => .array .int
  | 2 => .array .int
  | 3 => .int
  | 4 => .int
  | 5 => .int
  | _ => .int
theorem nmX8 : ∀ a, a < 7 → ∀ b, b < 7 → a ≠ b → (TX8 a).2.1 ≠ (TX8 b).2.1 := by decide +kernel
theorem tyX8_ok : ∀ k, k < 7 → parseFieldDescriptor (TX8 k).2.2.1 = some (tyX8 k) := by decide +kernel
def RX9 : String := "CanoeSides$Waters"
def TX9 : u_T := fun k => match k with
  | 0 => ("CanoeSides$Waters", "leads", "[I", true)
  | 1 => ("CanoeSides$Waters", "blown", "[I", true)
  | _ => ("CanoeSides$Waters", "times", "I", false)
def tyX9 : Nat → FieldType := fun k => match k with
  | 0 => .array .int
  | 1 => .array .int
  | _ => .int
theorem nmX9 : ∀ a, a < 3 → ∀ b, b < 3 → a ≠ b → (TX9 a).2.1 ≠ (TX9 b).2.1 := by decide +kernel
theorem tyX9_ok : ∀ k, k < 3 → parseFieldDescriptor (TX9 k).2.2.1 = some (tyX9 k) := by decide +kernel
def RX10 : String := "CanoeSides"
def TX10 : u_T := fun k => match k with
  | 0 => ("CanoeSides", "letters", "[I", true)
  | 1 => ("CanoeSides", "lettersTold", "I", false)
  | 2 => ("CanoeSides", "faultPlace", "I", false)
  | 3 => ("CanoeSides", "course", "LCanoeSides$River;", false)
  | 4 => ("CanoeSides", "waters", "LCanoeSides$Waters;", true)
  | 5 => ("CanoeSides", "crew", "LCanoeSides$Crew;", true)
  | 6 => ("CanoeSides", "three", "LCanoeSides$Crew;", true)
  | 7 => ("CanoeSides", "boat", "LCanoeSides$Boat;", true)
  | 8 => ("CanoeSides", "images", "[LCanoeSides$Boat;", true)
  | 9 => ("CanoeSides", "log", "LCanoeSides$Log;", true)
  | 10 => ("CanoeSides", "lines", "LCanoeSides$Lines;", true)
  | 11 => ("CanoeSides", "search", "LCanoeSides$Search;", true)
  | 12 => ("CanoeSides", "calling", "LCanoeSides$Calling;", true)
  | _ => ("CanoeSides", "gusts", "LCanoeSides$Gusts;", true)
def tyX10 : Nat → FieldType := fun k => match k with
  | 0 => .array .int
  | 1 => .int
  | 2 => .int
  | 3 => .object "CanoeSides$River"
  | 4 => .object "CanoeSides$Waters"
  | 5 => .object "CanoeSides$Crew"
  | 6 => .object "CanoeSides$Crew"
  | 7 => .object "CanoeSides$Boat"
  | 8 => .array (.object "CanoeSides$Boat")
  | 9 => .object "CanoeSides$Log"
  | 10 => .object "CanoeSides$Lines"
  | 11 => .object "CanoeSides$Search"
  | 12 => .object "CanoeSides$Calling"
  | _ => .object "CanoeSides$Gusts"
theorem nmX10 : ∀ a, a < 14 → ∀ b, b < 14 → a ≠ b → (TX10 a).2.1 ≠ (TX10 b).2.1 := by decide +kernel
theorem tyX10_ok : ∀ k, k < 14 → parseFieldDescriptor (TX10 k).2.2.1 = some (tyX10 k) := by decide +kernel
def RX11 : String := "CanoeSidesModel"
def TX11 : u_T := fun k => match k with
  | 0 => ("CanoeSidesModel", "w", "[I", true)
  | 1 => ("CanoeSidesModel", "isKept", "[Z", true)
  | 2 => ("CanoeSidesModel", "square", "[I", true)
  | 3 => ("CanoeSidesModel", "told", "[I", true)
  | 4 => ("CanoeSidesModel", "habit", "[I", true)
  | 5 => ("CanoeSidesModel", "clauses", "I", false)
  | 6 => ("CanoeSidesModel", "text", "[I", true)
  | 7 => ("CanoeSidesModel", "textSize", "I", false)
  | 8 => ("CanoeSidesModel", "at", "I", false)
  | 9 => ("CanoeSidesModel", "first", "I", false)
  | 10 => ("CanoeSidesModel", "faultOf", "I", false)
  | 11 => ("CanoeSidesModel", "fault", "I", false)
  | 12 => ("CanoeSidesModel", "more", "I", false)
  | 13 => ("CanoeSidesModel", "nextSquare", "I", false)
  | 14 => ("CanoeSidesModel", "nextHeading", "I", false)
  | 15 => ("CanoeSidesModel", "backs", "[I", true)
  | 16 => ("CanoeSidesModel", "backMany", "I", false)
  | 17 => ("CanoeSidesModel", "far", "[I", true)
  | 18 => ("CanoeSidesModel", "lastOfFront", "I", false)
  | 19 => ("CanoeSidesModel", "firstOfBehind", "I", false)
  | 20 => ("CanoeSidesModel", "called", "[I", true)
  | 21 => ("CanoeSidesModel", "calledThen", "[I", true)
  | 22 => ("CanoeSidesModel", "offEast", "I", false)
  | 23 => ("CanoeSidesModel", "offNorth", "I", false)
  | 24 => ("CanoeSidesModel", "sure", "[I", true)
  | 25 => ("CanoeSidesModel", "line", "[I", true)
  | 26 => ("CanoeSidesModel", "lineMany", "I", false)
  | 27 => ("CanoeSidesModel", "fitMany", "I", false)
  | 28 => ("CanoeSidesModel", "fitFirst", "I", false)
  | 29 => ("CanoeSidesModel", "heldBy", "[I", true)
  | 30 => ("CanoeSidesModel", "bookPair", "[I", true)
  | 31 => ("CanoeSidesModel", "bookSquare", "[I", true)
  | _ => ("CanoeSidesModel", "written", "I", false)
def tyX11 : Nat → FieldType := fun k => match k with
  | 0 => .array .int
  | 1 => .array .boolean
  | 2 => .array .int
  | 3 => .array .int
  | 4 => .array .int
  | 5 => .int
  | 6 => .array .int
  | 7 => .int
  | 8 => .int
  | 9 => .int
  | 10 => .int
  | 11 => .int
  | 12 => .int
  | 13 => .int
  | 14 => .int
  | 15 => .array .int
  | 16 => .int
  | 17 => .array .int
  | 18 => .int
  | 19 => .int
  | 20 => .array .int
  | 21 => .array .int
  | 22 => .int
  | 23 => .int
  | 24 => .array .int
  | 25 => .array .int
  | 26 => .int
  | 27 => .int
  | 28 => .int
  | 29 => .array .int
  | 30 => .array .int
  | 31 => .array .int
  | _ => .int
theorem nmX11 : ∀ a, a < 33 → ∀ b, b < 33 → a ≠ b → (TX11 a).2.1 ≠ (TX11 b).2.1 := by decide +kernel
theorem tyX11_ok : ∀ k, k < 33 → parseFieldDescriptor (TX11 k).2.2.1 = some (tyX11 k) := by decide +kernel
abbrev classes : List vw_C := [(RX0, TX0, 3), (RX1, TX1, 9), (RX2, TX2, 3), (RX3, TX3, 4), (RX4, TX4, 6), (RX5, TX5, 3), (RX6, TX6, 8), (RX7, TX7, 13), (RX8, TX8, 7), (RX9, TX9, 3), (RX10, TX10, 14), (RX11, TX11, 33)]
