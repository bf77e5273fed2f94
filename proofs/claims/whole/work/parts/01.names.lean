def RX0 : String := "PureGroups$Choice"
def TX0 : u_T := fun k => match k with
  | 0 => ("PureGroups$Choice", "space", "LPureGroups$Space;", true)
  | 1 => ("PureGroups$Choice", "chosen", "LPureGroups$Elimination;", true)
  | 2 => ("PureGroups$Choice", "powers", "[I", true)
  | 3 => ("PureGroups$Choice", "lookedAt", "I", false)
  | 4 => ("PureGroups$Choice", "count", "I", false)
  | 5 => ("PureGroups$Choice", "tried", "I", false)
  | 6 => ("PureGroups$Choice", "first", "I", false)
  | 7 => ("PureGroups$Choice", "best", "I", false)
  | _ => ("PureGroups$Choice", "leastSizes", "J", false)
def tyX0 : Nat → FieldType := fun k => match k with
  | 0 => .object "PureGroups$Space"
  | 1 => .object "PureGroups$Elimination"
  | 2 => .array .int
  | 3 => .int
  | 4 => .int
  | 5 => .int
  | 6 => .int
  | 7 => .int
  | _ => .long
theorem nmX0 : ∀ a, a < 9 → ∀ b, b < 9 → a ≠ b → (TX0 a).2.1 ≠ (TX0 b).2.1 := by decide +kernel
theorem tyX0_ok : ∀ k, k < 9 → parseFieldDescriptor (TX0 k).2.2.1 = some (tyX0 k) := by decide +kernel
def RX1 : String := "PureGroups$Elimination"
def TX1 : u_T := fun k => match k with
  | 0 => ("PureGroups$Elimination", "cell", "[[J", true)
  | 1 => ("PureGroups$Elimination", "rowOf", "[I", true)
  | 2 => ("PureGroups$Elimination", "size", "I", false)
  | 3 => ("PureGroups$Elimination", "rank", "I", false)
  | 4 => ("PureGroups$Elimination", "pivots", "I", false)
  | _ => ("PureGroups$Elimination", "scale", "J", false)
def tyX1 : Nat → FieldType := fun k => match k with
  | 0 => .array (.array .long)
  | 1 => .array .int
  | 2 => .int
  | 3 => .int
  | 4 => .int
  | _ => .long
theorem nmX1 : ∀ a, a < 6 → ∀ b, b < 6 → a ≠ b → (TX1 a).2.1 ≠ (TX1 b).2.1 := by decide +kernel
theorem tyX1_ok : ∀ k, k < 6 → parseFieldDescriptor (TX1 k).2.2.1 = some (tyX1 k) := by decide +kernel
def RX2 : String := "PureGroups$History"
def TX2 : u_T := fun k => match k with
  | 0 => ("PureGroups$History", "rows", "[[I", true)
  | 1 => ("PureGroups$History", "next", "I", false)
  | _ => ("PureGroups$History", "size", "I", false)
def tyX2 : Nat → FieldType := fun k => match k with
  | 0 => .array (.array .int)
  | 1 => .int
  | _ => .int
theorem nmX2 : ∀ a, a < 3 → ∀ b, b < 3 → a ≠ b → (TX2 a).2.1 ≠ (TX2 b).2.1 := by decide +kernel
theorem tyX2_ok : ∀ k, k < 3 → parseFieldDescriptor (TX2 k).2.2.1 = some (tyX2 k) := by decide +kernel
def RX3 : String := "PureGroups$Model"
def TX3 : u_T := fun k => match k with
  | 0 => ("PureGroups$Model", "size", "I", false)
  | 1 => ("PureGroups$Model", "kind", "[I", true)
  | 2 => ("PureGroups$Model", "told", "[[I", true)
  | 3 => ("PureGroups$Model", "above", "[I", true)
  | 4 => ("PureGroups$Model", "below", "[I", true)
  | 5 => ("PureGroups$Model", "letters", "[I", true)
  | 6 => ("PureGroups$Model", "length", "I", false)
  | _ => ("PureGroups$Model", "terms", "I", false)
def tyX3 : Nat → FieldType := fun k => match k with
  | 0 => .int
  | 1 => .array .int
  | 2 => .array (.array .int)
  | 3 => .array .int
  | 4 => .array .int
  | 5 => .array .int
  | 6 => .int
  | _ => .int
theorem nmX3 : ∀ a, a < 8 → ∀ b, b < 8 → a ≠ b → (TX3 a).2.1 ≠ (TX3 b).2.1 := by decide +kernel
theorem tyX3_ok : ∀ k, k < 8 → parseFieldDescriptor (TX3 k).2.2.1 = some (tyX3 k) := by decide +kernel
def RX4 : String := "PureGroups$Reading"
def TX4 : u_T := fun k => match k with
  | 0 => ("PureGroups$Reading", "space", "LPureGroups$Space;", true)
  | 1 => ("PureGroups$Reading", "text", "[I", true)
  | 2 => ("PureGroups$Reading", "length", "I", false)
  | 3 => ("PureGroups$Reading", "place", "I", false)
  | 4 => ("PureGroups$Reading", "fault", "I", false)
  | 5 => ("PureGroups$Reading", "terms", "I", false)
  | 6 => ("PureGroups$Reading", "quantities", "I", false)
  | 7 => ("PureGroups$Reading", "wrongAt", "[I", true)
  | 8 => ("PureGroups$Reading", "sums", "[[I", true)
  | 9 => ("PureGroups$Reading", "products", "[[I", true)
  | 10 => ("PureGroups$Reading", "none", "[I", true)
  | 11 => ("PureGroups$Reading", "ahead", "[I", true)
  | _ => ("PureGroups$Reading", "behind", "[I", true)
def tyX4 : Nat → FieldType := fun k => match k with
  | 0 => .object "PureGroups$Space"
  | 1 => .array .int
  | 2 => .int
  | 3 => .int
  | 4 => .int
  | 5 => .int
  | 6 => .int
  | 7 => .array .int
  | 8 => .array (.array .int)
  | 9 => .array (.array .int)
  | 10 => .array .int
  | 11 => .array .int
  | _ => .array .int
theorem nmX4 : ∀ a, a < 13 → ∀ b, b < 13 → a ≠ b → (TX4 a).2.1 ≠ (TX4 b).2.1 := by decide +kernel
theorem tyX4_ok : ∀ k, k < 13 → parseFieldDescriptor (TX4 k).2.2.1 = some (tyX4 k) := by decide +kernel
def RX5 : String := "PureGroups$Search"
def TX5 : u_T := fun k => match k with
  | 0 => ("PureGroups$Search", "space", "LPureGroups$Space;", true)
  | 1 => ("PureGroups$Search", "leastPowers", "[I", true)
  | 2 => ("PureGroups$Search", "leastSize", "I", false)
  | 3 => ("PureGroups$Search", "leastOf", "I", false)
  | 4 => ("PureGroups$Search", "factorKeys", "[J", true)
  | 5 => ("PureGroups$Search", "row", "[I", true)
  | _ => ("PureGroups$Search", "seen", "[J", true)
def tyX5 : Nat → FieldType := fun k => match k with
  | 0 => .object "PureGroups$Space"
  | 1 => .array .int
  | 2 => .int
  | 3 => .int
  | 4 => .array .long
  | 5 => .array .int
  | _ => .array .long
theorem nmX5 : ∀ a, a < 7 → ∀ b, b < 7 → a ≠ b → (TX5 a).2.1 ≠ (TX5 b).2.1 := by decide +kernel
theorem tyX5_ok : ∀ k, k < 7 → parseFieldDescriptor (TX5 k).2.2.1 = some (tyX5 k) := by decide +kernel
def RX6 : String := "PureGroups$Space"
def TX6 : u_T := fun k => match k with
  | 0 => ("PureGroups$Space", "size", "I", false)
  | 1 => ("PureGroups$Space", "version", "I", false)
  | 2 => ("PureGroups$Space", "power", "[[I", true)
  | 3 => ("PureGroups$Space", "key", "[J", true)
  | _ => ("PureGroups$Space", "all", "LPureGroups$Elimination;", true)
def tyX6 : Nat → FieldType := fun k => match k with
  | 0 => .int
  | 1 => .int
  | 2 => .array (.array .int)
  | 3 => .array .long
  | _ => .object "PureGroups$Elimination"
theorem nmX6 : ∀ a, a < 5 → ∀ b, b < 5 → a ≠ b → (TX6 a).2.1 ≠ (TX6 b).2.1 := by decide +kernel
theorem tyX6_ok : ∀ k, k < 5 → parseFieldDescriptor (TX6 k).2.2.1 = some (tyX6 k) := by decide +kernel
def RX7 : String := "PureGroups"
def TX7 : u_T := fun k => match k with
  | 0 => ("PureGroups", "model", "LPureGroups$Model;", true)
  | 1 => ("PureGroups", "image", "LPureGroups$Model;", true)
  | 2 => ("PureGroups", "imageTaken", "Z", false)
  | 3 => ("PureGroups", "history", "LPureGroups$History;", true)
  | 4 => ("PureGroups", "space", "LPureGroups$Space;", true)
  | 5 => ("PureGroups", "choice", "LPureGroups$Choice;", true)
  | 6 => ("PureGroups", "search", "LPureGroups$Search;", true)
  | 7 => ("PureGroups", "reading", "LPureGroups$Reading;", true)
  | 8 => ("PureGroups", "letters", "[I", true)
  | 9 => ("PureGroups", "letterCount", "I", false)
  | 10 => ("PureGroups", "lists", "[[I", true)
  | 11 => ("PureGroups", "listSizes", "[I", true)
  | 12 => ("PureGroups", "powers", "[I", true)
  | 13 => ("PureGroups", "product", "[I", true)
  | 14 => ("PureGroups", "dimension", "[I", true)
  | _ => ("PureGroups", "refusals", "[I", true)
def tyX7 : Nat → FieldType := fun k => match k with
  | 0 => .object "PureGroups$Model"
  | 1 => .object "PureGroups$Model"
  | 2 => .boolean
  | 3 => .object "PureGroups$History"
  | 4 => .object "PureGroups$Space"
  | 5 => .object "PureGroups$Choice"
  | 6 => .object "PureGroups$Search"
  | 7 => .object "PureGroups$Reading"
  | 8 => .array .int
  | 9 => .int
  | 10 => .array (.array .int)
  | 11 => .array .int
  | 12 => .array .int
  | 13 => .array .int
  | 14 => .array .int
  | _ => .array .int
theorem nmX7 : ∀ a, a < 16 → ∀ b, b < 16 → a ≠ b → (TX7 a).2.1 ≠ (TX7 b).2.1 := by decide +kernel
theorem tyX7_ok : ∀ k, k < 16 → parseFieldDescriptor (TX7 k).2.2.1 = some (tyX7 k) := by decide +kernel
def RX8 : String := "PureGroupsModel"
def TX8 : u_T := fun k => match k with
  | 0 => ("PureGroupsModel", "g", "[I", true)
  | 1 => ("PureGroupsModel", "kept", "[I", true)
  | 2 => ("PureGroupsModel", "isKept", "Z", false)
  | 3 => ("PureGroupsModel", "refused", "[I", true)
  | 4 => ("PureGroupsModel", "come", "[I", true)
  | 5 => ("PureGroupsModel", "comes", "I", false)
  | 6 => ("PureGroupsModel", "step", "[I", true)
  | 7 => ("PureGroupsModel", "steps", "I", false)
  | 8 => ("PureGroupsModel", "table", "[J", true)
  | 9 => ("PureGroupsModel", "power", "[J", true)
  | 10 => ("PureGroupsModel", "rowOf", "[I", true)
  | 11 => ("PureGroupsModel", "size", "[I", true)
  | 12 => ("PureGroupsModel", "cell", "[I", true)
  | 13 => ("PureGroupsModel", "told", "[I", true)
  | 14 => ("PureGroupsModel", "factor", "[I", true)
  | 15 => ("PureGroupsModel", "want", "[I", true)
  | 16 => ("PureGroupsModel", "row", "[J", true)
  | 17 => ("PureGroupsModel", "place", "I", false)
  | 18 => ("PureGroupsModel", "open", "I", false)
  | 19 => ("PureGroupsModel", "terms", "I", false)
  | 20 => ("PureGroupsModel", "comesTo", "[I", true)
  | 21 => ("PureGroupsModel", "side", "[I", true)
  | 22 => ("PureGroupsModel", "isWrong", "[Z", true)
  | 23 => ("PureGroupsModel", "at", "I", false)
  | 24 => ("PureGroupsModel", "stands", "I", false)
  | 25 => ("PureGroupsModel", "equals", "I", false)
  | _ => ("PureGroupsModel", "z", "I", false)
def tyX8 : Nat → FieldType := fun k => match k with
  | 0 => .array .int
  | 1 => .array .int
  | 2 => .boolean
  | 3 => .array .int
  | 4 => .array .int
  | 5 => .int
  | 6 => .array .int
  | 7 => .int
  | 8 => .array .long
  | 9 => .array .long
  | 10 => .array .int
  | 11 => .array .int
  | 12 => .array .int
  | 13 => .array .int
  | 14 => .array .int
  | 15 => .array .int
  | 16 => .array .long
  | 17 => .int
  | 18 => .int
  | 19 => .int
  | 20 => .array .int
  | 21 => .array .int
  | 22 => .array .boolean
  | 23 => .int
  | 24 => .int
  | 25 => .int
  | _ => .int
theorem nmX8 : ∀ a, a < 27 → ∀ b, b < 27 → a ≠ b → (TX8 a).2.1 ≠ (TX8 b).2.1 := by decide +kernel
theorem tyX8_ok : ∀ k, k < 27 → parseFieldDescriptor (TX8 k).2.2.1 = some (tyX8 k) := by decide +kernel
/-- the classes whose objects the world holds -/
def cl : List vw_C := [(RX0, TX0, 9), (RX1, TX1, 6), (RX2, TX2, 3), (RX3, TX3, 8), (RX4, TX4, 13), (RX5, TX5, 7), (RX6, TX6, 5), (RX7, TX7, 16), (RX8, TX8, 27)]
/-- how many fields; the kind of a field: 0 int, 1 long, 2 reference, 3 boolean -/
def nfL : List Nat := [9, 6, 3, 8, 13, 7, 5, 16, 27]
def ftL : List (List Nat) := [[2, 2, 2, 0, 0, 0, 0, 0, 1], [2, 2, 0, 0, 0, 1], [2, 0, 0], [0, 2, 2, 2, 2, 2, 0, 0], [2, 2, 0, 0, 0, 0, 0, 2, 2, 2, 2, 2, 2], [2, 2, 0, 0, 2, 2, 2], [0, 0, 2, 2, 2], [2, 2, 3, 2, 2, 2, 2, 2, 2, 0, 2, 2, 2, 2, 2, 2], [2, 2, 3, 2, 2, 0, 2, 0, 2, 2, 2, 2, 2, 2, 2, 2, 2, 0, 0, 0, 2, 2, 2, 0, 0, 0, 0]]
/-- the cells: ck 0 int[], 1 long[], 2 boolean[], 3 int[][], 4 long[][], 5 + n an object of the n-th class; al the length; rf what a reference leads to -/
def NC : Nat := 135
def ckT (c : Nat) : Nat := (bif Nat.blt c 67 then (bif Nat.blt c 33 then (bif Nat.blt c 16 then (bif Nat.blt c 8 then (bif Nat.blt c 4 then (bif Nat.blt c 2 then (bif Nat.blt c 1 then 12 else 8) else (bif Nat.blt c 3 then 0 else 3)) else 0) else (bif Nat.blt c 12 then 0 else (bif Nat.blt c 14 then 0 else (bif Nat.blt c 15 then 0 else 8)))) else (bif Nat.blt c 24 then (bif Nat.blt c 20 then (bif Nat.blt c 18 then (bif Nat.blt c 17 then 0 else 3) else 0) else 0) else (bif Nat.blt c 28 then 0 else (bif Nat.blt c 30 then (bif Nat.blt c 29 then 0 else 7) else (bif Nat.blt c 31 then 3 else 0))))) else (bif Nat.blt c 50 then 0 else (bif Nat.blt c 58 then (bif Nat.blt c 54 then (bif Nat.blt c 52 then (bif Nat.blt c 51 then 0 else 11) else (bif Nat.blt c 53 then 3 else 0)) else 0) else (bif Nat.blt c 62 then (bif Nat.blt c 60 then 0 else (bif Nat.blt c 61 then 0 else 1)) else (bif Nat.blt c 64 then (bif Nat.blt c 63 then 6 else 4) else 1))))) else (bif Nat.blt c 101 then (bif Nat.blt c 84 then (bif Nat.blt c 75 then (bif Nat.blt c 71 then (bif Nat.blt c 69 then 1 else (bif Nat.blt c 70 then 0 else 5)) else (bif Nat.blt c 73 then (bif Nat.blt c 72 then 6 else 4) else 1)) else (bif Nat.blt c 79 then (bif Nat.blt c 77 then 1 else (bif Nat.blt c 78 then 1 else 0)) else (bif Nat.blt c 81 then (bif Nat.blt c 80 then 0 else 10) else (bif Nat.blt c 82 then 0 else (bif Nat.blt c 83 then 1 else 0))))) else (bif Nat.blt c 92 then (bif Nat.blt c 88 then (bif Nat.blt c 86 then (bif Nat.blt c 85 then 1 else 9) else 0) else (bif Nat.blt c 90 then (bif Nat.blt c 89 then 3 else 0) else 0)) else (bif Nat.blt c 96 then 0 else (bif Nat.blt c 98 then (bif Nat.blt c 97 then 3 else 0) else 0)))) else (bif Nat.blt c 118 then (bif Nat.blt c 109 then (bif Nat.blt c 105 then 0 else (bif Nat.blt c 107 then 0 else (bif Nat.blt c 108 then 0 else 3))) else (bif Nat.blt c 113 then 0 else (bif Nat.blt c 115 then 0 else (bif Nat.blt c 116 then 0 else (bif Nat.blt c 117 then 0 else 13))))) else (bif Nat.blt c 126 then (bif Nat.blt c 122 then 0 else (bif Nat.blt c 124 then (bif Nat.blt c 123 then 0 else 1) else (bif Nat.blt c 125 then 1 else 0))) else (bif Nat.blt c 130 then 0 else (bif Nat.blt c 132 then (bif Nat.blt c 131 then 0 else 1) else (bif Nat.blt c 133 then 0 else (bif Nat.blt c 134 then 0 else 2))))))))
def ck (c : Nat) : Nat := bif Nat.blt c NC then ckT c else 99
def alT (c : Nat) : Nat := (bif Nat.blt c 67 then (bif Nat.blt c 33 then (bif Nat.blt c 16 then (bif Nat.blt c 8 then (bif Nat.blt c 4 then (bif Nat.blt c 2 then (bif Nat.blt c 1 then 16 else 8) else 8) else 5) else (bif Nat.blt c 12 then 5 else (bif Nat.blt c 14 then 8 else (bif Nat.blt c 15 then 72 else 8)))) else (bif Nat.blt c 24 then (bif Nat.blt c 20 then (bif Nat.blt c 18 then 8 else 5) else 5) else (bif Nat.blt c 28 then (bif Nat.blt c 26 then 5 else 8) else (bif Nat.blt c 30 then (bif Nat.blt c 29 then 72 else 3) else (bif Nat.blt c 31 then 20 else 4))))) else (bif Nat.blt c 50 then 4 else (bif Nat.blt c 58 then (bif Nat.blt c 54 then (bif Nat.blt c 52 then (bif Nat.blt c 51 then 4 else 5) else (bif Nat.blt c 53 then 8 else 5)) else 5) else (bif Nat.blt c 62 then (bif Nat.blt c 60 then 5 else (bif Nat.blt c 61 then 5 else 8)) else (bif Nat.blt c 64 then (bif Nat.blt c 63 then 6 else 5) else 8))))) else (bif Nat.blt c 101 then (bif Nat.blt c 84 then (bif Nat.blt c 75 then (bif Nat.blt c 71 then (bif Nat.blt c 69 then 8 else (bif Nat.blt c 70 then 8 else 9)) else (bif Nat.blt c 73 then (bif Nat.blt c 72 then 6 else 5) else 8)) else (bif Nat.blt c 79 then 8 else (bif Nat.blt c 81 then (bif Nat.blt c 80 then 8 else 7) else (bif Nat.blt c 82 then 8 else (bif Nat.blt c 83 then 16 else 3))))) else (bif Nat.blt c 92 then (bif Nat.blt c 88 then (bif Nat.blt c 86 then (bif Nat.blt c 85 then 1024 else 13) else 72) else (bif Nat.blt c 90 then (bif Nat.blt c 89 then 7 else 5) else 5)) else (bif Nat.blt c 96 then 5 else (bif Nat.blt c 98 then (bif Nat.blt c 97 then 7 else 5) else 5)))) else (bif Nat.blt c 118 then (bif Nat.blt c 109 then (bif Nat.blt c 105 then 5 else (bif Nat.blt c 107 then 5 else (bif Nat.blt c 108 then 72 else 3))) else (bif Nat.blt c 113 then (bif Nat.blt c 111 then 40 else (bif Nat.blt c 112 then 40 else 3)) else (bif Nat.blt c 115 then 8 else (bif Nat.blt c 116 then 5 else (bif Nat.blt c 117 then 7 else 27))))) else (bif Nat.blt c 126 then (bif Nat.blt c 122 then (bif Nat.blt c 120 then 139 else (bif Nat.blt c 121 then 7 else 72)) else (bif Nat.blt c 124 then (bif Nat.blt c 123 then 100 else 45) else (bif Nat.blt c 125 then 8 else 9))) else (bif Nat.blt c 130 then (bif Nat.blt c 128 then (bif Nat.blt c 127 then 3 else 120) else (bif Nat.blt c 129 then 8 else 3)) else (bif Nat.blt c 132 then (bif Nat.blt c 131 then 5 else 969) else (bif Nat.blt c 133 then 200 else (bif Nat.blt c 134 then 10 else 72))))))))
def al (c : Nat) : Nat := bif Nat.blt c NC then alT c else 0
def rfT (c : Nat) : List Nat := (bif Nat.blt c 59 then (bif Nat.blt c 29 then (bif Nat.blt c 14 then (bif Nat.blt c 7 then (bif Nat.blt c 3 then (bif Nat.blt c 1 then [1, 15, 0, 29, 51, 70, 80, 85, 107, 0, 108, 112, 113, 114, 115, 116] else (bif Nat.blt c 2 then [0, 2, 3, 12, 13, 14, 0, 0] else [])) else []) else []) else (bif Nat.blt c 21 then (bif Nat.blt c 17 then (bif Nat.blt c 15 then [] else (bif Nat.blt c 16 then [0, 16, 17, 26, 27, 28, 0, 0] else [])) else []) else [])) else (bif Nat.blt c 44 then (bif Nat.blt c 36 then (bif Nat.blt c 32 then (bif Nat.blt c 30 then [30, 0, 0] else []) else []) else []) else (bif Nat.blt c 51 then [] else (bif Nat.blt c 55 then (bif Nat.blt c 53 then (bif Nat.blt c 52 then [0, 0, 52, 61, 62] else []) else []) else [])))) else (bif Nat.blt c 88 then (bif Nat.blt c 73 then (bif Nat.blt c 66 then (bif Nat.blt c 62 then [] else (bif Nat.blt c 64 then (bif Nat.blt c 63 then [63, 69, 0, 0, 0, 0] else []) else [])) else (bif Nat.blt c 69 then [] else (bif Nat.blt c 71 then (bif Nat.blt c 70 then [] else [51, 71, 79, 0, 0, 0, 0, 0, 0]) else (bif Nat.blt c 72 then [72, 78, 0, 0, 0, 0] else [])))) else (bif Nat.blt c 80 then [] else (bif Nat.blt c 84 then (bif Nat.blt c 82 then (bif Nat.blt c 81 then [51, 81, 0, 0, 82, 83, 84] else []) else []) else (bif Nat.blt c 86 then (bif Nat.blt c 85 then [] else [51, 86, 0, 0, 0, 0, 0, 87, 88, 96, 104, 105, 106]) else [])))) else (bif Nat.blt c 103 then [] else (bif Nat.blt c 110 then [] else (bif Nat.blt c 114 then [] else (bif Nat.blt c 116 then [] else (bif Nat.blt c 117 then [] else [118, 119, 0, 120, 121, 0, 122, 0, 123, 124, 125, 126, 127, 128, 129, 130, 131, 0, 0, 0, 132, 133, 134, 0, 0, 0, 0])))))))
def nf (c : Nat) : Nat := nfL.getD c 0
def ft (c k : Nat) : Nat := (ftL.getD c []).getD k 0
def rf (c j : Nat) : Nat := bif (ck c == 3 || ck c == 4) then c + 1 + j else (rfT c).getD j 0
/-- static arrays that nobody writes: cells from 1000 on -/
def stL : List (String × List Int32) := [("UNDER", [-1, 0, 0, 1, 0, 2]), ("LESS_OF_UNIT_1", [0, 0, 1, 2, 0, 1]), ("LESS_OF_UNIT_2", [0, 1, 0, 1, 0, 0]), ("TIMES", [1, 1, 1, 1, 0, 2]), ("PRIMES", [2, 3, 5, 7, 11, 13, 17, 19, 23, 29, 31, 37, 41, 43, 47, 53, 59, 61, 67, 71, 73, 79, 83, 89, 97])]
def sq (c : Nat) : String × List Int32 := stL.getD (c - 1000) ("", [])
def sn (c : Nat) : Nat := (sq c).2.length
def sv (c j : Nat) : Int32 := (sq c).2.getD j 0
