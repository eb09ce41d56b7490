section
def RC_0 : String := "ChoraleSearch$Score"
def TC_0 : u_T := fun k => match k with
  | 0 => ("ChoraleSearch$Score", "placeCount", "I", false)
  | 1 => ("ChoraleSearch$Score", "styleChords", "I", false)
  | 2 => ("ChoraleSearch$Score", "pitches", "[I", true)
  | 3 => ("ChoraleSearch$Score", "figures", "[I", true)
  | 4 => ("ChoraleSearch$Score", "inversions", "[I", true)
  | 5 => ("ChoraleSearch$Score", "fermatas", "[Z", true)
  | 6 => ("ChoraleSearch$Score", "prices", "[I", true)
  | 7 => ("ChoraleSearch$Score", "lows", "[I", true)
  | _ => ("ChoraleSearch$Score", "highs", "[I", true)
def tC_0 : Nat → FieldType := fun k => match k with
  | 0 => .int
  | 1 => .int
  | 2 => .array .int
  | 3 => .array .int
  | 4 => .array .int
  | 5 => .array .boolean
  | 6 => .array .int
  | 7 => .array .int
  | _ => .array .int
theorem nC_0 : ∀ a, a < 9 → ∀ b, b < 9 → a ≠ b → (TC_0 a).2.1 ≠ (TC_0 b).2.1 := by decide +kernel
theorem oC_0 : ∀ k, k < 9 → parseFieldDescriptor (TC_0 k).2.2.1 = some (tC_0 k) := by decide +kernel
def RC_1 : String := "ChoraleSearch$Harmony"
def TC_1 : u_T := fun k => match k with
  | 0 => ("ChoraleSearch$Harmony", "tonic", "I", false)
  | 1 => ("ChoraleSearch$Harmony", "minor", "I", false)
  | 2 => ("ChoraleSearch$Harmony", "leadingClass", "I", false)
  | 3 => ("ChoraleSearch$Harmony", "memberClasses", "[I", true)
  | 4 => ("ChoraleSearch$Harmony", "chordsByMember", "[I", true)
  | 5 => ("ChoraleSearch$Harmony", "chordsByClass", "[I", true)
  | _ => ("ChoraleSearch$Harmony", "units", "[I", true)
def tC_1 : Nat → FieldType := fun k => match k with
  | 0 => .int
  | 1 => .int
  | 2 => .int
  | 3 => .array .int
  | 4 => .array .int
  | 5 => .array .int
  | _ => .array .int
theorem nC_1 : ∀ a, a < 7 → ∀ b, b < 7 → a ≠ b → (TC_1 a).2.1 ≠ (TC_1 b).2.1 := by decide +kernel
theorem oC_1 : ∀ k, k < 7 → parseFieldDescriptor (TC_1 k).2.2.1 = some (tC_1 k) := by decide +kernel
def RC_2 : String := "ChoraleSearch$StateRules"
def TC_2 : u_T := fun k => match k with
  | 0 => ("ChoraleSearch$StateRules", "score", "LChoraleSearch$Score;", true)
  | 1 => ("ChoraleSearch$StateRules", "harmony", "LChoraleSearch$Harmony;", true)
  | 2 => ("ChoraleSearch$StateRules", "bottoms", "[I", true)
  | 3 => ("ChoraleSearch$StateRules", "tops", "[I", true)
  | _ => ("ChoraleSearch$StateRules", "members", "[I", true)
def tC_2 : Nat → FieldType := fun k => match k with
  | 0 => .object "ChoraleSearch$Score"
  | 1 => .object "ChoraleSearch$Harmony"
  | 2 => .array .int
  | 3 => .array .int
  | _ => .array .int
theorem nC_2 : ∀ a, a < 5 → ∀ b, b < 5 → a ≠ b → (TC_2 a).2.1 ≠ (TC_2 b).2.1 := by decide +kernel
theorem oC_2 : ∀ k, k < 5 → parseFieldDescriptor (TC_2 k).2.2.1 = some (tC_2 k) := by decide +kernel
def RC_3 : String := "ChoraleSearch$StepRules"
def TC_3 : u_T := fun k => match k with
  | 0 => ("ChoraleSearch$StepRules", "harmony", "LChoraleSearch$Harmony;", true)
  | 1 => ("ChoraleSearch$StepRules", "fromChord", "I", false)
  | 2 => ("ChoraleSearch$StepRules", "toChord", "I", false)
  | 3 => ("ChoraleSearch$StepRules", "before", "[I", true)
  | _ => ("ChoraleSearch$StepRules", "after", "[I", true)
def tC_3 : Nat → FieldType := fun k => match k with
  | 0 => .object "ChoraleSearch$Harmony"
  | 1 => .int
  | 2 => .int
  | 3 => .array .int
  | _ => .array .int
theorem nC_3 : ∀ a, a < 5 → ∀ b, b < 5 → a ≠ b → (TC_3 a).2.1 ≠ (TC_3 b).2.1 := by decide +kernel
theorem oC_3 : ∀ k, k < 5 → parseFieldDescriptor (TC_3 k).2.2.1 = some (tC_3 k) := by decide +kernel
def RC_4 : String := "ChoraleSearch$Table"
def TC_4 : u_T := fun k => match k with
  | 0 => ("ChoraleSearch$Table", "score", "LChoraleSearch$Score;", true)
  | 1 => ("ChoraleSearch$Table", "rules", "LChoraleSearch$StateRules;", true)
  | 2 => ("ChoraleSearch$Table", "layers", "[LChoraleSearch$Layer;", true)
  | _ => ("ChoraleSearch$Table", "fresh", "Z", false)
def tC_4 : Nat → FieldType := fun k => match k with
  | 0 => .object "ChoraleSearch$Score"
  | 1 => .object "ChoraleSearch$StateRules"
  | 2 => .array (.object "ChoraleSearch$Layer")
  | _ => .boolean
theorem nC_4 : ∀ a, a < 4 → ∀ b, b < 4 → a ≠ b → (TC_4 a).2.1 ≠ (TC_4 b).2.1 := by decide +kernel
theorem oC_4 : ∀ k, k < 4 → parseFieldDescriptor (TC_4 k).2.2.1 = some (tC_4 k) := by decide +kernel
def RC_5 : String := "ChoraleSearch$Layer"
def TC_5 : u_T := fun k => match k with
  | 0 => ("ChoraleSearch$Layer", "size", "I", false)
  | 1 => ("ChoraleSearch$Layer", "codes", "[I", true)
  | _ => ("ChoraleSearch$Layer", "marks", "[I", true)
def tC_5 : Nat → FieldType := fun k => match k with
  | 0 => .int
  | 1 => .array .int
  | _ => .array .int
theorem nC_5 : ∀ a, a < 3 → ∀ b, b < 3 → a ≠ b → (TC_5 a).2.1 ≠ (TC_5 b).2.1 := by decide +kernel
theorem oC_5 : ∀ k, k < 3 → parseFieldDescriptor (TC_5 k).2.2.1 = some (tC_5 k) := by decide +kernel
def RC_6 : String := "ChoraleSearch$Reach"
def TC_6 : u_T := fun k => match k with
  | 0 => ("ChoraleSearch$Reach", "score", "LChoraleSearch$Score;", true)
  | 1 => ("ChoraleSearch$Reach", "table", "LChoraleSearch$Table;", true)
  | 2 => ("ChoraleSearch$Reach", "stateRules", "LChoraleSearch$StateRules;", true)
  | 3 => ("ChoraleSearch$Reach", "stepRules", "LChoraleSearch$StepRules;", true)
  | _ => ("ChoraleSearch$Reach", "trial", "LChoraleSearch$Layer;", true)
def tC_6 : Nat → FieldType := fun k => match k with
  | 0 => .object "ChoraleSearch$Score"
  | 1 => .object "ChoraleSearch$Table"
  | 2 => .object "ChoraleSearch$StateRules"
  | 3 => .object "ChoraleSearch$StepRules"
  | _ => .object "ChoraleSearch$Layer"
theorem nC_6 : ∀ a, a < 5 → ∀ b, b < 5 → a ≠ b → (TC_6 a).2.1 ≠ (TC_6 b).2.1 := by decide +kernel
theorem oC_6 : ∀ k, k < 5 → parseFieldDescriptor (TC_6 k).2.2.1 = some (tC_6 k) := by decide +kernel
def RC_7 : String := "ChoraleSearch$Costs"
def TC_7 : u_T := fun k => match k with
  | 0 => ("ChoraleSearch$Costs", "score", "LChoraleSearch$Score;", true)
  | _ => ("ChoraleSearch$Costs", "harmony", "LChoraleSearch$Harmony;", true)
def tC_7 : Nat → FieldType := fun k => match k with
  | 0 => .object "ChoraleSearch$Score"
  | _ => .object "ChoraleSearch$Harmony"
theorem nC_7 : ∀ a, a < 2 → ∀ b, b < 2 → a ≠ b → (TC_7 a).2.1 ≠ (TC_7 b).2.1 := by decide +kernel
theorem oC_7 : ∀ k, k < 2 → parseFieldDescriptor (TC_7 k).2.2.1 = some (tC_7 k) := by decide +kernel
def RC_8 : String := "ChoraleSearch$RowSearch"
def TC_8 : u_T := fun k => match k with
  | 0 => ("ChoraleSearch$RowSearch", "score", "LChoraleSearch$Score;", true)
  | 1 => ("ChoraleSearch$RowSearch", "table", "LChoraleSearch$Table;", true)
  | 2 => ("ChoraleSearch$RowSearch", "steps", "LChoraleSearch$StepRules;", true)
  | 3 => ("ChoraleSearch$RowSearch", "costs", "LChoraleSearch$Costs;", true)
  | 4 => ("ChoraleSearch$RowSearch", "links", "[[I", true)
  | 5 => ("ChoraleSearch$RowSearch", "sums", "[I", false)
  | 6 => ("ChoraleSearch$RowSearch", "laterSums", "[I", false)
  | 7 => ("ChoraleSearch$RowSearch", "alive", "[I", true)
  | 8 => ("ChoraleSearch$RowSearch", "aliveCount", "I", false)
  | 9 => ("ChoraleSearch$RowSearch", "beamStates", "[I", true)
  | 10 => ("ChoraleSearch$RowSearch", "rowLinks", "[I", true)
  | 11 => ("ChoraleSearch$RowSearch", "rowSums", "[I", true)
  | 12 => ("ChoraleSearch$RowSearch", "rowCodes", "[I", true)
  | 13 => ("ChoraleSearch$RowSearch", "rowCount", "I", false)
  | _ => ("ChoraleSearch$RowSearch", "leftOut", "Z", false)
def tC_8 : Nat → FieldType := fun k => match k with
  | 0 => .object "ChoraleSearch$Score"
  | 1 => .object "ChoraleSearch$Table"
  | 2 => .object "ChoraleSearch$StepRules"
  | 3 => .object "ChoraleSearch$Costs"
  | 4 => .array (.array .int)
  | 5 => .array .int
  | 6 => .array .int
  | 7 => .array .int
  | 8 => .int
  | 9 => .array .int
  | 10 => .array .int
  | 11 => .array .int
  | 12 => .array .int
  | 13 => .int
  | _ => .boolean
theorem nC_8 : ∀ a, a < 15 → ∀ b, b < 15 → a ≠ b → (TC_8 a).2.1 ≠ (TC_8 b).2.1 := by decide +kernel
theorem oC_8 : ∀ k, k < 15 → parseFieldDescriptor (TC_8 k).2.2.1 = some (tC_8 k) := by decide +kernel
def RC_9 : String := "ChoraleSearch"
def TC_9 : u_T := fun k => match k with
  | 0 => ("ChoraleSearch", "score", "LChoraleSearch$Score;", true)
  | 1 => ("ChoraleSearch", "harmony", "LChoraleSearch$Harmony;", true)
  | 2 => ("ChoraleSearch", "table", "LChoraleSearch$Table;", true)
  | 3 => ("ChoraleSearch", "reach", "LChoraleSearch$Reach;", true)
  | _ => ("ChoraleSearch", "search", "LChoraleSearch$RowSearch;", true)
def tC_9 : Nat → FieldType := fun k => match k with
  | 0 => .object "ChoraleSearch$Score"
  | 1 => .object "ChoraleSearch$Harmony"
  | 2 => .object "ChoraleSearch$Table"
  | 3 => .object "ChoraleSearch$Reach"
  | _ => .object "ChoraleSearch$RowSearch"
theorem nC_9 : ∀ a, a < 5 → ∀ b, b < 5 → a ≠ b → (TC_9 a).2.1 ≠ (TC_9 b).2.1 := by decide +kernel
theorem oC_9 : ∀ k, k < 5 → parseFieldDescriptor (TC_9 k).2.2.1 = some (tC_9 k) := by decide +kernel
def RC_10 : String := "ChoraleSearchModel"
def TC_10 : u_T := fun k => match k with
  | 0 => ("ChoraleSearchModel", "thrown", "I", false)
  | 1 => ("ChoraleSearchModel", "major", "[I", true)
  | 2 => ("ChoraleSearchModel", "minorOnes", "[I", true)
  | 3 => ("ChoraleSearchModel", "scaleMajor", "[I", true)
  | 4 => ("ChoraleSearchModel", "scaleMinor", "[I", true)
  | 5 => ("ChoraleSearchModel", "tonic", "I", false)
  | 6 => ("ChoraleSearchModel", "isMinor", "Z", false)
  | 7 => ("ChoraleSearchModel", "places", "I", false)
  | 8 => ("ChoraleSearchModel", "given", "[I", true)
  | 9 => ("ChoraleSearchModel", "figure", "[I", true)
  | 10 => ("ChoraleSearchModel", "inversion", "[I", true)
  | 11 => ("ChoraleSearchModel", "fermata", "[Z", true)
  | 12 => ("ChoraleSearchModel", "style", "[Z", true)
  | 13 => ("ChoraleSearchModel", "cost", "[I", true)
  | 14 => ("ChoraleSearchModel", "low", "[I", true)
  | 15 => ("ChoraleSearchModel", "high", "[I", true)
  | 16 => ("ChoraleSearchModel", "pitch", "[I", true)
  | 17 => ("ChoraleSearchModel", "chordOf", "[I", true)
  | 18 => ("ChoraleSearchModel", "stateCost", "[I", true)
  | 19 => ("ChoraleSearchModel", "many", "[I", true)
  | 20 => ("ChoraleSearchModel", "waySum", "[I", true)
  | 21 => ("ChoraleSearchModel", "wayState", "[I", true)
  | 22 => ("ChoraleSearchModel", "wayRank", "[I", true)
  | 23 => ("ChoraleSearchModel", "ways", "[I", true)
  | 24 => ("ChoraleSearchModel", "isKept", "[Z", true)
  | 25 => ("ChoraleSearchModel", "isCome", "[Z", true)
  | 26 => ("ChoraleSearchModel", "rows", "I", false)
  | 27 => ("ChoraleSearchModel", "rowPitch", "[I", true)
  | 28 => ("ChoraleSearchModel", "rowChord", "[I", true)
  | 29 => ("ChoraleSearchModel", "rowSum", "[I", true)
  | 30 => ("ChoraleSearchModel", "isSure", "Z", false)
  | 31 => ("ChoraleSearchModel", "now", "[I", true)
  | 32 => ("ChoraleSearchModel", "barred", "I", false)
  | 33 => ("ChoraleSearchModel", "topState", "[I", true)
  | 34 => ("ChoraleSearchModel", "topRank", "[I", true)
  | _ => ("ChoraleSearchModel", "stepBars", "I", false)
def tC_10 : Nat → FieldType := fun k => match k with
  | 0 => .int
  | 1 => .array .int
  | 2 => .array .int
  | 3 => .array .int
  | 4 => .array .int
  | 5 => .int
  | 6 => .boolean
  | 7 => .int
  | 8 => .array .int
  | 9 => .array .int
  | 10 => .array .int
  | 11 => .array .boolean
  | 12 => .array .boolean
  | 13 => .array .int
  | 14 => .array .int
  | 15 => .array .int
  | 16 => .array .int
  | 17 => .array .int
  | 18 => .array .int
  | 19 => .array .int
  | 20 => .array .int
  | 21 => .array .int
  | 22 => .array .int
  | 23 => .array .int
  | 24 => .array .boolean
  | 25 => .array .boolean
  | 26 => .int
  | 27 => .array .int
  | 28 => .array .int
  | 29 => .array .int
  | 30 => .boolean
  | 31 => .array .int
  | 32 => .int
  | 33 => .array .int
  | 34 => .array .int
  | _ => .int
theorem nC_10 : ∀ a, a < 36 → ∀ b, b < 36 → a ≠ b → (TC_10 a).2.1 ≠ (TC_10 b).2.1 := by decide +kernel
theorem oC_10 : ∀ k, k < 36 → parseFieldDescriptor (TC_10 k).2.2.1 = some (tC_10 k) := by decide +kernel
abbrev ri_cl : List vw_C := [(RC_0, TC_0, 9), (RC_1, TC_1, 7), (RC_2, TC_2, 5), (RC_3, TC_3, 5), (RC_4, TC_4, 4), (RC_5, TC_5, 3), (RC_6, TC_6, 5), (RC_7, TC_7, 2), (RC_8, TC_8, 15), (RC_9, TC_9, 5), (RC_10, TC_10, 36)]
def ri_kt : List FieldType := [.int, .boolean, .object "ChoraleSearch$Layer", .array .int]
def st_FUNCTIONS : List Int32 := [0, 1, 0, 1, 2, 0, 2, 2, 1, 3, 3, 3, 3]
def st_MAJOR : List Int32 := [0, 4, 7, -2, 2, 5, 9, -2, 4, 7, 11, -2, 5, 9, 0, -2, 7, 11, 2, -2, 9, 0, 4, -2, 11, 2, 5, -2, 7, 11, 2, 5, 2, 5, 9, 0, 2, 6, 9, -2, 2, 6, 9, 0, 4, 8, 11, -2, 0, 4, 7, 10]
def st_MINOR : List Int32 := [0, 3, 7, -2, 2, 5, 8, -2, 3, 7, 10, -2, 5, 8, 0, -2, 7, 11, 2, -2, 8, 0, 3, -2, 11, 2, 5, -2, 7, 11, 2, 5, 2, 5, 8, 0, 2, 6, 9, -2, 2, 6, 9, 0, 3, 7, 10, -2, 0, 4, 7, 10]
def st_WIDEST_BELOW : List Int32 := [12, 12, 19]
def st_INVERSION_UNITS : List Int32 := [0, 1, 6, 2]
def ri_ST : List (String × String × String × Nat × (Nat → Int32)) := [("ChoraleSearch$Harmony", "FUNCTIONS", "[I", 13, fun i => st_FUNCTIONS.getD i 0), ("ChoraleSearch$Harmony", "MAJOR", "[I", 52, fun i => st_MAJOR.getD i 0), ("ChoraleSearch$Harmony", "MINOR", "[I", 52, fun i => st_MINOR.getD i 0), ("ChoraleSearch$StateRules", "WIDEST_BELOW", "[I", 3, fun i => st_WIDEST_BELOW.getD i 0), ("ChoraleSearch$Costs", "INVERSION_UNITS", "[I", 4, fun i => st_INVERSION_UNITS.getD i 0)]
def ri_AO : List String := ["ChoraleSearch$Layer"]
def nw_26 : Cond := Cond.methodLinkNest "ChoraleSearch" 9 ⟨"ChoraleSearch$Score", "<init>", "()V"⟩ "ChoraleSearch"
def nw_35 : Cond := Cond.fieldLinkNest "ChoraleSearch$Reach" 34 "ChoraleSearch$Score" "placeCount" "I" "ChoraleSearch"
def nw_36 : Cond := Cond.fieldLinkNest "ChoraleSearch$Table" 30 "ChoraleSearch$Score" "placeCount" "I" "ChoraleSearch"
def nw_37 : Cond := Cond.fieldLinkNest "ChoraleSearch" 70 "ChoraleSearch$Score" "placeCount" "I" "ChoraleSearch"
def nw_38 : Cond := Cond.fieldLinkNest "ChoraleSearch$RowSearch" 65 "ChoraleSearch$Score" "placeCount" "I" "ChoraleSearch"
def nw_40 : Cond := Cond.fieldLinkNest "ChoraleSearch" 106 "ChoraleSearch$Score" "styleChords" "I" "ChoraleSearch"
def nw_42 : Cond := Cond.fieldLinkNest "ChoraleSearch$Reach" 98 "ChoraleSearch$Score" "pitches" "[I" "ChoraleSearch"
def nw_43 : Cond := Cond.fieldLinkNest "ChoraleSearch" 201 "ChoraleSearch$Score" "pitches" "[I" "ChoraleSearch"
def nw_45 : Cond := Cond.fieldLinkNest "ChoraleSearch" 92 "ChoraleSearch$Score" "figures" "[I" "ChoraleSearch"
def nw_47 : Cond := Cond.fieldLinkNest "ChoraleSearch$StateRules" 105 "ChoraleSearch$Score" "inversions" "[I" "ChoraleSearch"
def nw_48 : Cond := Cond.fieldLinkNest "ChoraleSearch" 96 "ChoraleSearch$Score" "inversions" "[I" "ChoraleSearch"
def nw_50 : Cond := Cond.fieldLinkNest "ChoraleSearch$StateRules" 101 "ChoraleSearch$Score" "fermatas" "[Z" "ChoraleSearch"
def nw_51 : Cond := Cond.fieldLinkNest "ChoraleSearch" 99 "ChoraleSearch$Score" "fermatas" "[Z" "ChoraleSearch"
def nw_53 : Cond := Cond.fieldLinkNest "ChoraleSearch$Costs" 19 "ChoraleSearch$Score" "prices" "[I" "ChoraleSearch"
def nw_54 : Cond := Cond.fieldLinkNest "ChoraleSearch" 109 "ChoraleSearch$Score" "prices" "[I" "ChoraleSearch"
def nw_56 : Cond := Cond.fieldLinkNest "ChoraleSearch" 112 "ChoraleSearch$Score" "lows" "[I" "ChoraleSearch"
def nw_58 : Cond := Cond.fieldLinkNest "ChoraleSearch" 115 "ChoraleSearch$Score" "highs" "[I" "ChoraleSearch"
def nw_82 : Cond := Cond.methodLinkNest "ChoraleSearch" 18 ⟨"ChoraleSearch$Harmony", "<init>", "()V"⟩ "ChoraleSearch"
def nw_116 : Cond := Cond.fieldLinkNest "ChoraleSearch" 184 "ChoraleSearch$Harmony" "tonic" "I" "ChoraleSearch"
def nw_118 : Cond := Cond.fieldLinkNest "ChoraleSearch" 187 "ChoraleSearch$Harmony" "minor" "I" "ChoraleSearch"
def nw_120 : Cond := Cond.fieldLinkNest "ChoraleSearch$StateRules" 120 "ChoraleSearch$Harmony" "leadingClass" "I" "ChoraleSearch"
def nw_121 : Cond := Cond.fieldLinkNest "ChoraleSearch$StepRules" 77 "ChoraleSearch$Harmony" "leadingClass" "I" "ChoraleSearch"
def nw_143 : Cond := Cond.methodLinkNest "ChoraleSearch" 25 ⟨"ChoraleSearch$StateRules", "<init>", "(LChoraleSearch$Score;LChoraleSearch$Harmony;)V"⟩ "ChoraleSearch"
def nw_165 : Cond := Cond.methodLinkNest "ChoraleSearch" 30 ⟨"ChoraleSearch$StepRules", "<init>", "(LChoraleSearch$Harmony;)V"⟩ "ChoraleSearch"
def nw_187 : Cond := Cond.methodLinkNest "ChoraleSearch" 35 ⟨"ChoraleSearch$Table", "<init>", "(LChoraleSearch$Score;LChoraleSearch$StateRules;)V"⟩ "ChoraleSearch"
def nw_194 : Cond := Cond.methodLinkNest "ChoraleSearch$Table" 25 ⟨"ChoraleSearch$Layer", "<init>", "()V"⟩ "ChoraleSearch"
def nw_199 : Cond := Cond.fieldLinkNest "ChoraleSearch$StateRules" 29 "ChoraleSearch$Layer" "size" "I" "ChoraleSearch"
def nw_200 : Cond := Cond.fieldLinkNest "ChoraleSearch$Table" 42 "ChoraleSearch$Layer" "size" "I" "ChoraleSearch"
def nw_201 : Cond := Cond.fieldLinkNest "ChoraleSearch$Reach" 79 "ChoraleSearch$Layer" "size" "I" "ChoraleSearch"
def nw_202 : Cond := Cond.fieldLinkNest "ChoraleSearch" 158 "ChoraleSearch$Layer" "size" "I" "ChoraleSearch"
def nw_204 : Cond := Cond.fieldLinkNest "ChoraleSearch$Reach" 54 "ChoraleSearch$Layer" "codes" "[I" "ChoraleSearch"
def nw_205 : Cond := Cond.fieldLinkNest "ChoraleSearch$RowSearch" 105 "ChoraleSearch$Layer" "codes" "[I" "ChoraleSearch"
def nw_207 : Cond := Cond.fieldLinkNest "ChoraleSearch$Reach" 62 "ChoraleSearch$Layer" "marks" "[I" "ChoraleSearch"
def nw_218 : Cond := Cond.fieldLinkNest "ChoraleSearch$Reach" 44 "ChoraleSearch$Table" "layers" "[LChoraleSearch$Layer;" "ChoraleSearch"
def nw_219 : Cond := Cond.fieldLinkNest "ChoraleSearch$RowSearch" 87 "ChoraleSearch$Table" "layers" "[LChoraleSearch$Layer;" "ChoraleSearch"
def nw_220 : Cond := Cond.fieldLinkNest "ChoraleSearch" 154 "ChoraleSearch$Table" "layers" "[LChoraleSearch$Layer;" "ChoraleSearch"
def nw_233 : Cond := Cond.methodLinkNest "ChoraleSearch" 44 ⟨"ChoraleSearch$Reach", "<init>", "(LChoraleSearch$Score;LChoraleSearch$Table;LChoraleSearch$StateRules;LChoraleSearch$StepRules;)V"⟩ "ChoraleSearch"
def nw_238 : Cond := Cond.methodLinkNest "ChoraleSearch$Reach" 11 ⟨"ChoraleSearch$Layer", "<init>", "()V"⟩ "ChoraleSearch"
def nw_259 : Cond := Cond.methodLinkNest "ChoraleSearch" 55 ⟨"ChoraleSearch$Costs", "<init>", "(LChoraleSearch$Score;LChoraleSearch$Harmony;)V"⟩ "ChoraleSearch"
def nw_270 : Cond := Cond.methodLinkNest "ChoraleSearch" 56 ⟨"ChoraleSearch$RowSearch", "<init>", "(LChoraleSearch$Score;LChoraleSearch$Table;LChoraleSearch$StepRules;LChoraleSearch$Costs;)V"⟩ "ChoraleSearch"
def nw_288 : Cond := Cond.fieldLinkNest "ChoraleSearch" 147 "ChoraleSearch$RowSearch" "rowSums" "[I" "ChoraleSearch"
def nw_291 : Cond := Cond.fieldLinkNest "ChoraleSearch" 128 "ChoraleSearch$RowSearch" "rowCount" "I" "ChoraleSearch"
def nw_293 : Cond := Cond.fieldLinkNest "ChoraleSearch" 150 "ChoraleSearch$RowSearch" "leftOut" "Z" "ChoraleSearch"
def nw_345 : Cond := Cond.methodLinkNest "ChoraleSearch" 63 ⟨"ChoraleSearch$Harmony", "tune", "(II)V"⟩ "ChoraleSearch"
def nw_350 : Cond := Cond.methodLinkNest "ChoraleSearch" 204 ⟨"ChoraleSearch$RowSearch", "forget", "()V"⟩ "ChoraleSearch"
def nw_354 : Cond := Cond.methodLinkNest "ChoraleSearch" 207 ⟨"ChoraleSearch$Table", "spoil", "()V"⟩ "ChoraleSearch"
def nw_362 : Cond := Cond.methodLinkNest "ChoraleSearch" 74 ⟨"ChoraleSearch$Score", "clearFrom", "(I)V"⟩ "ChoraleSearch"
def nw_416 : Cond := Cond.methodLinkNest "ChoraleSearch" 118 ⟨"ChoraleSearch$Table", "prepare", "()V"⟩ "ChoraleSearch"
def nw_420 : Cond := Cond.methodLinkNest "ChoraleSearch$Table" 36 ⟨"ChoraleSearch$StateRules", "fill", "(LChoraleSearch$Layer;I)V"⟩ "ChoraleSearch"
def nw_428 : Cond := Cond.methodLinkNest "ChoraleSearch$StateRules" 74 ⟨"ChoraleSearch$Score", "lowAt", "(II)I"⟩ "ChoraleSearch"
def nw_435 : Cond := Cond.methodLinkNest "ChoraleSearch$StateRules" 77 ⟨"ChoraleSearch$Score", "highAt", "(II)I"⟩ "ChoraleSearch"
def nw_442 : Cond := Cond.methodLinkNest "ChoraleSearch$StateRules" 39 ⟨"ChoraleSearch$Score", "figuredChords", "(I)I"⟩ "ChoraleSearch"
def nw_450 : Cond := Cond.methodLinkNest "ChoraleSearch$StateRules" 97 ⟨"ChoraleSearch$Score", "isLast", "(I)Z"⟩ "ChoraleSearch"
def nw_454 : Cond := Cond.methodLinkNest "ChoraleSearch$StateRules" 48 ⟨"ChoraleSearch$Harmony", "chordsWith", "(I)I"⟩ "ChoraleSearch"
def nw_462 : Cond := Cond.methodLinkNest "ChoraleSearch$StateRules" 65 ⟨"ChoraleSearch$Code", "withVoice", "(II)I"⟩ "ChoraleSearch"
def nw_473 : Cond := Cond.methodLinkNest "ChoraleSearch$StateRules" 108 ⟨"ChoraleSearch$Harmony", "chordsWithMember", "(II)I"⟩ "ChoraleSearch"
def nw_481 : Cond := Cond.methodLinkNest "ChoraleSearch$StateRules" 87 ⟨"ChoraleSearch$Code", "withChord", "(II)I"⟩ "ChoraleSearch"
def nw_488 : Cond := Cond.methodLinkNest "ChoraleSearch$StateRules" 111 ⟨"ChoraleSearch$Harmony", "memberClass", "(II)I"⟩ "ChoraleSearch"
def nw_492 : Cond := Cond.methodLinkNest "ChoraleSearch$StateRules" 114 ⟨"ChoraleSearch$Code", "timesClass", "(II)I"⟩ "ChoraleSearch"
def nw_495 : Cond := Cond.methodLinkNest "ChoraleSearch$StateRules" 117 ⟨"ChoraleSearch$Harmony", "guardsLeading", "(I)Z"⟩ "ChoraleSearch"
def nw_499 : Cond := Cond.methodLinkNest "ChoraleSearch$StateRules" 94 ⟨"ChoraleSearch$Layer", "add", "(I)V"⟩ "ChoraleSearch"
def nw_503 : Cond := Cond.methodLinkNest "ChoraleSearch" 121 ⟨"ChoraleSearch$Table", "overflows", "()Z"⟩ "ChoraleSearch"
def nw_507 : Cond := Cond.methodLinkNest "ChoraleSearch" 125 ⟨"ChoraleSearch$RowSearch", "run", "(I)V"⟩ "ChoraleSearch"
def nw_517 : Cond := Cond.methodLinkNest "ChoraleSearch$RowSearch" 99 ⟨"ChoraleSearch$Layer", "kept", "()I"⟩ "ChoraleSearch"
def nw_522 : Cond := Cond.methodLinkNest "ChoraleSearch$RowSearch" 108 ⟨"ChoraleSearch$Costs", "ofState", "(I)I"⟩ "ChoraleSearch"
def nw_530 : Cond := Cond.methodLinkNest "ChoraleSearch$Costs" 43 ⟨"ChoraleSearch$Code", "pitchOf", "(II)I"⟩ "ChoraleSearch"
def nw_533 : Cond := Cond.methodLinkNest "ChoraleSearch$Costs" 38 ⟨"ChoraleSearch$Code", "chordOf", "(I)I"⟩ "ChoraleSearch"
def nw_536 : Cond := Cond.methodLinkNest "ChoraleSearch$Costs" 46 ⟨"ChoraleSearch$Harmony", "memberClass", "(II)I"⟩ "ChoraleSearch"
def nw_542 : Cond := Cond.methodLinkNest "ChoraleSearch$Costs" 32 ⟨"ChoraleSearch$Harmony", "timesMember", "(II)I"⟩ "ChoraleSearch"
def nw_546 : Cond := Cond.methodLinkNest "ChoraleSearch$Harmony" 74 ⟨"ChoraleSearch$Code", "chordOf", "(I)I"⟩ "ChoraleSearch"
def nw_548 : Cond := Cond.methodLinkNest "ChoraleSearch$Harmony" 83 ⟨"ChoraleSearch$Code", "timesClass", "(II)I"⟩ "ChoraleSearch"
def nw_549 : Cond := Cond.methodLinkNest "ChoraleSearch$RowSearch" 114 ⟨"ChoraleSearch$Score", "isLast", "(I)Z"⟩ "ChoraleSearch"
def nw_557 : Cond := Cond.methodLinkNest "ChoraleSearch$RowSearch" 129 ⟨"ChoraleSearch$StepRules", "allow", "(II)Z"⟩ "ChoraleSearch"
def nw_565 : Cond := Cond.methodLinkNest "ChoraleSearch$StepRules" 45 ⟨"ChoraleSearch$Code", "chordOf", "(I)I"⟩ "ChoraleSearch"
def nw_566 : Cond := Cond.methodLinkNest "ChoraleSearch$StepRules" 58 ⟨"ChoraleSearch$Code", "unpack", "(I[I)V"⟩ "ChoraleSearch"
def nw_573 : Cond := Cond.methodLinkNest "ChoraleSearch$StepRules" 62 ⟨"ChoraleSearch$Harmony", "unitsBetween", "(II)I"⟩ "ChoraleSearch"
def nw_604 : Cond := Cond.methodLinkNest "ChoraleSearch$StepRules" 80 ⟨"ChoraleSearch$Harmony", "memberClass", "(II)I"⟩ "ChoraleSearch"
def nw_605 : Cond := Cond.methodLinkNest "ChoraleSearch$RowSearch" 135 ⟨"ChoraleSearch$Costs", "ofStep", "(II)I"⟩ "ChoraleSearch"
def nw_609 : Cond := Cond.methodLinkNest "ChoraleSearch$Costs" 52 ⟨"ChoraleSearch$Harmony", "unitsBetween", "(II)I"⟩ "ChoraleSearch"
def nw_654 : Cond := Cond.methodLinkNest "ChoraleSearch" 134 ⟨"ChoraleSearch$RowSearch", "codeAt", "(II)I"⟩ "ChoraleSearch"
def nw_658 : Cond := Cond.methodLinkNest "ChoraleSearch" 138 ⟨"ChoraleSearch$Code", "pitchOf", "(II)I"⟩ "ChoraleSearch"
def nw_663 : Cond := Cond.methodLinkNest "ChoraleSearch" 143 ⟨"ChoraleSearch$Code", "chordOf", "(I)I"⟩ "ChoraleSearch"
def nw_680 : Cond := Cond.methodLinkNest "ChoraleSearch" 163 ⟨"ChoraleSearch$Reach", "firstUnreached", "()I"⟩ "ChoraleSearch"
def nw_688 : Cond := Cond.methodLinkNest "ChoraleSearch$Reach" 50 ⟨"ChoraleSearch$Layer", "kept", "()I"⟩ "ChoraleSearch"
def nw_693 : Cond := Cond.methodLinkNest "ChoraleSearch$Reach" 65 ⟨"ChoraleSearch$Layer", "isMarked", "(II)Z"⟩ "ChoraleSearch"
def nw_697 : Cond := Cond.methodLinkNest "ChoraleSearch$Reach" 68 ⟨"ChoraleSearch$StepRules", "allow", "(II)Z"⟩ "ChoraleSearch"
def nw_698 : Cond := Cond.methodLinkNest "ChoraleSearch" 167 ⟨"ChoraleSearch$Reach", "barringRules", "(I)I"⟩ "ChoraleSearch"
def nw_702 : Cond := Cond.methodLinkNest "ChoraleSearch$Reach" 82 ⟨"ChoraleSearch$StateRules", "barring", "(I)I"⟩ "ChoraleSearch"
def nw_750 : Cond := Cond.methodLinkNest "ChoraleSearch$Reach" 92 ⟨"ChoraleSearch$StepRules", "barring", "(II)I"⟩ "ChoraleSearch"
def nw_758 : Cond := Cond.methodLinkNest "ChoraleSearch" 170 ⟨"ChoraleSearch$Reach", "noteToGiveWay", "()I"⟩ "ChoraleSearch"
def nw_770 : Cond := Cond.methodLinkNest "ChoraleSearch$Reach" 76 ⟨"ChoraleSearch$Score", "isLast", "(I)Z"⟩ "ChoraleSearch"
def nw_771 : Cond := Cond.methodLinkNest "ChoraleSearch$Reach" 101 ⟨"ChoraleSearch$StateRules", "fill", "(LChoraleSearch$Layer;I)V"⟩ "ChoraleSearch"
def nw_782 : Cond := Cond.methodLinkNest "ChoraleSearch" 181 ⟨"ChoraleSearch$Harmony", "inScale", "(I)Z"⟩ "ChoraleSearch"
def nw_793 : Cond := Cond.methodLinkNest "ChoraleSearch" 190 ⟨"ChoraleSearch$Score", "givenNotes", "()I"⟩ "ChoraleSearch"
def nw_807 : Cond := Cond.methodLinkNest "ChoraleSearch" 198 ⟨"ChoraleSearch$Harmony", "memberClass", "(II)I"⟩ "ChoraleSearch"
def ri_NW : List Cond := [nw_26, nw_35, nw_36, nw_37, nw_38, nw_40, nw_42, nw_43, nw_45, nw_47, nw_48, nw_50, nw_51, nw_53, nw_54, nw_56, nw_58, nw_82, nw_116, nw_118, nw_120, nw_121, nw_143, nw_165, nw_187, nw_194, nw_199, nw_200, nw_201, nw_202, nw_204, nw_205, nw_207, nw_218, nw_219, nw_220, nw_233, nw_238, nw_259, nw_270, nw_288, nw_291, nw_293, nw_345, nw_350, nw_354, nw_362, nw_416, nw_420, nw_428, nw_435, nw_442, nw_450, nw_454, nw_462, nw_473, nw_481, nw_488, nw_492, nw_495, nw_499, nw_503, nw_507, nw_517, nw_522, nw_530, nw_533, nw_536, nw_542, nw_546, nw_548, nw_549, nw_557, nw_565, nw_566, nw_573, nw_604, nw_605, nw_609, nw_654, nw_658, nw_663, nw_680, nw_688, nw_693, nw_697, nw_698, nw_702, nw_750, nw_758, nw_770, nw_771, nw_782, nw_793, nw_807]
end
section
/-! AN ABSTRACT MACHINE over places. A reference is a place: below 16 a static table, from 16 on the cells of the heap in the order in which they were made. An instruction is a predicate transformer; a method is a list of them; whoever is closed under the list holds at the method's entry. -/
abbrev ri_C : Type := (Nat × Nat × ((Nat → Int32) ⊕ (Nat → Option Nat))) ⊕ (Nat × List Value)
abbrev ri_L : Type := List (Option Value)
abbrev ri_K : Type := Nat → Nat → Nat → ri_L → List Value → List ri_C → Prop
abbrev ri_S : Type := ri_K → Nat → Nat → ri_L → List Value → List ri_C → Prop
abbrev ri_O : Type := Option Value → List ri_C → Prop
def ri_at (h : List ri_C) (q : Nat) : Option ri_C := bif Nat.ble 16 q then h[q - 16]? else (ri_ST[q]?).map (fun t => .inl (0, t.2.2.2.1, .inl t.2.2.2.2))
-- the instructions
def i_con (n : Nat) (v : Int32) : ri_S := fun k U V L st h => k n U V L (.int v :: st) h
def i_il (n i : Nat) : ri_S := fun k U V L st h => match L[i]? with
  | some (some (.int x)) => k n U V L (.int x :: st) h
  | _ => False
def i_al (n i : Nat) : ri_S := fun k U V L st h => match L[i]? with
  | some (some (.ref x)) => k n U V L (.ref x :: st) h
  | _ => False
def i_is (n i : Nat) : ri_S := fun k U V L st h => match st with
  | .int x :: r => k n U V (L.set i (some (.int x))) r h
  | _ => False
def i_as (n i : Nat) : ri_S := fun k U V L st h => match st with
  | .ref x :: r => k n U V (L.set i (some (.ref x))) r h
  | _ => False
def i_inc (n i : Nat) (c : Int32) : ri_S := fun k U V L st h => match L[i]? with
  | some (some (.int x)) => k n U V (L.set i (some (.int (x + c)))) st h
  | _ => False
def i_bin (n : Nat) (f : Int32 → Int32 → Int32) : ri_S := fun k U V L st h => match st with
  | .int y :: .int x :: r => k n U V L (.int (f x y) :: r) h
  | _ => False
/-- a division or a rest: the divisor isn't 0 -/
def i_div (n : Nat) (f : Int32 → Int32 → Int32) : ri_S := fun k U V L st h => match st with
  | .int y :: .int x :: r => ¬ y = 0 ∧ k n U V L (.int (f x y) :: r) h
  | _ => False
def i_un (n : Nat) (f : Int32 → Int32) : ri_S := fun k U V L st h => match st with
  | .int x :: r => k n U V L (.int (f x) :: r) h
  | _ => False
def i_if (n t : Nat) (c : Int32 → Prop) : ri_S := fun k U V L st h => match st with
  | .int x :: r => (c x → k t U V L r h) ∧ (¬ c x → k n U V L r h)
  | _ => False
def i_icmp (n t : Nat) (c : Int32 → Int32 → Prop) : ri_S := fun k U V L st h => match st with
  | .int y :: .int x :: r => (c x y → k t U V L r h) ∧ (¬ c x y → k n U V L r h)
  | _ => False
def i_goto (t : Nat) : ri_S := fun k U V L st h => k t U V L st h
def ri_cat1 (v : Value) : Bool := match v with
  | .int _ => true
  | .ref _ => true
  | .null => true
  | _ => false
def i_dup (n : Nat) : ri_S := fun k U V L st h => match st with
  | a :: r => bif ri_cat1 a then k n U V L (a :: a :: r) h else False
  | _ => False
def i_pop (n : Nat) : ri_S := fun k U V L st h => match st with
  | a :: r => bif ri_cat1 a then k n U V L r h else False
  | _ => False
def i_dup2 (n : Nat) : ri_S := fun k U V L st h => match st with
  | a :: b :: r => bif ri_cat1 a && ri_cat1 b then k n U V L (a :: b :: a :: b :: r) h else False
  | _ => False
def i_dupx1 (n : Nat) : ri_S := fun k U V L st h => match st with
  | a :: b :: r => bif ri_cat1 a && ri_cat1 b then k n U V L (a :: b :: a :: r) h else False
  | _ => False
def i_dupx2 (n : Nat) : ri_S := fun k U V L st h => match st with
  | a :: b :: d :: r => bif ri_cat1 a && ri_cat1 b && ri_cat1 d then k n U V L (a :: b :: d :: a :: r) h else False
  | _ => False
def i_get (n ci f : Nat) : ri_S := fun k U V L st h => match st with
  | .ref q :: r => match ri_at h q with
    | some (.inr (c', fs)) => bif Nat.ble 16 q && Nat.beq c' ci then (match fs[f]? with
      | some v => k n U V L (v :: r) h
      | none => False) else False
    | _ => False
  | _ => False
/-- what may be put into a field: an int, a reference (a place of the heap or a table), null -/
def ri_isI (v : Value) : Bool := match v with
  | .int _ => true
  | _ => false
def ri_isR (v : Value) : Bool := match v with
  | .ref _ => true
  | .null => true
  | _ => false
def i_put (n ci f : Nat) (ok : Value → Bool) : ri_S := fun k U V L st h => match st with
  | v :: .ref q :: r => match ri_at h q with
    | some (.inr (c', fs)) => bif ok v && (Nat.ble 16 q && (Nat.beq c' ci && Nat.blt f fs.length)) then k n U V L r (h.set (q - 16) (.inr (c', fs.set f v))) else False
    | _ => False
  | _ => False
def i_gets (n q : Nat) : ri_S := fun k U V L st h => k n U V L (.ref q :: st) h
def i_ald (n kd : Nat) : ri_S := fun k U V L st h => match st with
  | .int i :: .ref q :: r => match ri_at h q with
    | some (.inl (t, N, .inl f)) => vp_in i N ∧ bif Nat.beq t kd then k n U V L (.int (f i.toNatClampNeg) :: r) h else False
    | _ => False
  | _ => False
def i_ast (n kd : Nat) (na : Int32 → Int32) : ri_S := fun k U V L st h => match st with
  | .int x :: .int i :: .ref q :: r => match ri_at h q with
    | some (.inl (t, N, .inl f)) => vp_in i N ∧ bif Nat.ble 16 q && Nat.beq t kd then k n U V L r (h.set (q - 16) (.inl (t, N, .inl (upd f i.toNatClampNeg (na x))))) else False
    | _ => False
  | _ => False
def i_aald (n kd : Nat) : ri_S := fun k U V L st h => match st with
  | .int i :: .ref q :: r => match ri_at h q with
    | some (.inl (t, N, .inr g)) => vp_in i N ∧ bif Nat.ble 16 q && Nat.beq t kd then k n U V L (va_rf (g i.toNatClampNeg) :: r) h else False
    | _ => False
  | _ => False
def i_alen (n : Nat) : ri_S := fun k U V L st h => match st with
  | .ref q :: r => match ri_at h q with
    | some (.inl (t, N, _)) => bif Nat.blt t ri_kt.length then k n U V L (.int (Int32.ofNat N) :: r) h else False
    | _ => False
  | _ => False
def i_call (n na : Nat) (E : List Value → List ri_C → ri_O → Prop) (mc ms RC RS : Nat) : ri_S := fun k U V L st h =>
  bif Nat.ble (U + mc) RC && (Nat.ble (V + ms) RS && (Nat.ble na st.length && Nat.ble ((st.drop na).map Value.category).sum 8)) then (∃ Po : ri_O, E (st.take na).reverse h Po ∧ ∀ r h', Po r h' → k n (U + mc) (V + ms) L (r.toList ++ st.drop na) h') else False
/-- a call of an instance method: the receiver is an object of class ci -/
def i_callV (n na ci : Nat) (E : List Value → List ri_C → ri_O → Prop) (mc ms RC RS : Nat) : ri_S := fun k U V L st h => match (st.take na).reverse with
  | .ref q :: as => match ri_at h q with
    | some (.inr (c', _)) => bif Nat.ble 16 q && (Nat.beq c' ci && (Nat.ble (U + mc) RC && (Nat.ble (V + ms) RS && (Nat.ble na st.length && Nat.ble ((st.drop na).map Value.category).sum 8)))) then (∃ Po : ri_O, E (.ref q :: as) h Po ∧ ∀ r h', Po r h' → k n (U + mc) (V + ms) L (r.toList ++ st.drop na) h') else False
    | _ => False
  | _ => False
def ri_sw (P : Nat → Prop) (x : Int32) : List (Int32 × Nat) → Nat → Prop
  | [], d => P d
  | (v, t) :: r, d => (x = v → P t) ∧ (¬ x = v → ri_sw P x r d)
def i_sw (cs : List (Int32 × Nat)) (d : Nat) : ri_S := fun k U V L st h => match st with
  | .int x :: r => ri_sw (fun t => k t U V L r h) x cs d
  | _ => False
def i_ret (Po : ri_O) (mc ms : Nat) : ri_S := fun _ U V _ st h => match st with
  | [.int v] => bif Nat.ble U mc && Nat.ble V ms then Po (some (.int v)) h else False
  | _ => False
def i_zret (Po : ri_O) (mc ms : Nat) : ri_S := fun _ U V _ st h => match st with
  | [.int v] => bif Nat.ble U mc && Nat.ble V ms then narrow .boolean (.int v) = .int v ∧ Po (some (.int v)) h else False
  | _ => False
def i_vret (Po : ri_O) (mc ms : Nat) : ri_S := fun _ U V _ st h => match st with
  | [] => bif Nat.ble U mc && Nat.ble V ms then Po none h else False
  | _ => False
def i_aret (Po : ri_O) (mc ms : Nat) : ri_S := fun _ U V _ st h => match st with
  | [.ref q] => bif Nat.ble U mc && Nat.ble V ms then Po (some (.ref q)) h else False
  | _ => False
theorem ri_bif {b : Bool} {P : Prop} (h : bif b then P else False) : b = true ∧ P := by
  cases b with
  | true => exact ⟨rfl, h⟩
  | false => exact h.elim
theorem ri_and {a b : Bool} (h : (a && b) = true) : a = true ∧ b = true := by
  cases a <;> cases b <;> first | exact ⟨rfl, rfl⟩ | cases h
-- closed predicates, and runs over a stretch of the list
abbrev ri_snd (J : ri_K) (i : Nat) (f : ri_S) : Prop := ∀ k : ri_K, (∀ j U V L st h, k j U V L st h → J j U V L st h) → ∀ U V L st h, f k U V L st h → J i U V L st h
def ri_clo (J : ri_K) (tab : List ri_S) : Prop := ∀ (i : Nat) (f : ri_S), tab[i]? = some f → ri_snd J i f
def ri_run (tab : List ri_S) (stops : List Nat) (J : ri_K) : Nat → ri_K
  | 0 => J
  | n + 1 => fun i U V L st h => bif stops.contains i then J i U V L st h else (match tab[i]? with
    | some f => f (ri_run tab stops J n) U V L st h
    | none => False)
theorem ri_run_ok {tab : List ri_S} {J : ri_K} (hJ : ri_clo J tab) (stops : List Nat) : ∀ (n i U V : Nat) (L : ri_L) (st : List Value) (h : List ri_C), ri_run tab stops J n i U V L st h → J i U V L st h
  | 0, _, _, _, _, _, _, hr => hr
  | n + 1, i, U, V, L, st, h, hr => by
    unfold ri_run at hr
    cases hs : stops.contains i with
    | true => rw [hs] at hr; exact hr
    | false =>
      rw [hs] at hr
      cases ht : tab[i]? with
      | none => rw [ht] at hr; exact hr.elim
      | some f =>
        rw [ht] at hr
        exact hJ i f ht _ (ri_run_ok hJ stops n) U V L st h hr
/-- one step, then a run -/
theorem ri_go {tab : List ri_S} {J : ri_K} (hJ : ri_clo J tab) (stops : List Nat) (n i : Nat) {f : ri_S} (hf : tab[i]? = some f) {U V : Nat} {L : ri_L} {st : List Value} {h : List ri_C} (hr : f (ri_run tab stops J n) U V L st h) : J i U V L st h := hJ i f hf _ (ri_run_ok hJ stops n) U V L st h hr
end
section
/-! The abstract machine's instructions hold over the machine: a row each. -/
def ri_ad (sa : Nat → Nat) (base k : Nat) : Nat := bif Nat.ble 16 k then base + (k - 16) else sa k
def ri_v (sa : Nat → Nat) (base : Nat) (v : Value) : Value := match v with
  | .ref k => .ref (ri_ad sa base k)
  | v => v
theorem ri_v_cat (sa : Nat → Nat) (base : Nat) (v : Value) : (ri_v sa base v).category = v.category := by cases v <;> rfl
def ri_c (sa : Nat → Nat) (base : Nat) (ka : Nat → ClassId) (e : ri_C) : va_E := match e with
  | .inl (t, n, .inl f) => .inl (ka t, n, .inl f)
  | .inl (t, n, .inr g) => .inl (ka t, n, .inr (.inr (.inr (.inr (fun i => (g i).map (ri_ad sa base))))))
  | .inr (ci, fs) => .inr (ci, fs.map (ri_v sa base))
def ri_w (sa : Nat → Nat) (base : Nat) (ka : Nat → ClassId) (h : List ri_C) : va_W := h.mapIdx (fun j e => (base + j, ri_c sa base ka e))
theorem ri_w_get {sa : Nat → Nat} {base : Nat} {ka : Nat → ClassId} {h : List ri_C} {j : Nat} {e : ri_C} (hj : h[j]? = some e) : (ri_w sa base ka h)[j]? = some (base + j, ri_c sa base ka e) := by
  simp [ri_w, List.getElem?_mapIdx, hj]
theorem ri_w_at {sa : Nat → Nat} {base : Nat} {ka : Nat → ClassId} {h : List ri_C} {j : Nat} {q : Nat × va_E} (hj : (ri_w sa base ka h)[j]? = some q) : q.1 = base + j := by
  simp only [ri_w, List.getElem?_mapIdx, Option.map_eq_some_iff] at hj
  obtain ⟨e, -, rfl⟩ := hj
  rfl
theorem ri_w_D {sa : Nat → Nat} {base : Nat} {ka : Nat → ClassId} {h : List ri_C} : va_D (fun q => base ≤ q) (ri_w sa base ka h) := by
  refine ⟨fun i j x y hi hj hxy => ?_, fun k q hk => ?_⟩
  · have a := ri_w_at hi
    have b := ri_w_at hj
    omega
  · have a := ri_w_at hk
    show base ≤ q.1
    omega
theorem ri_w_set {sa : Nat → Nat} {base : Nat} {ka : Nat → ClassId} {h : List ri_C} {j : Nat} {e : ri_C} : (ri_w sa base ka h).set j (base + j, ri_c sa base ka e) = ri_w sa base ka (h.set j e) := by
  apply List.ext_getElem?
  intro i
  simp only [ri_w, List.getElem?_set, List.getElem?_mapIdx, List.length_mapIdx]
  by_cases hij : j = i
  · subst hij
    by_cases hl : j < h.length <;> simp [hl]
  · simp [hij]
theorem ri_w_app {sa : Nat → Nat} {base : Nat} {ka : Nat → ClassId} {h : List ri_C} {e : ri_C} : ri_w sa base ka (h ++ [e]) = ri_w sa base ka h ++ [(base + h.length, ri_c sa base ka e)] := by
  simp [ri_w, List.mapIdx_append]
def ri_tys (ka : Nat → ClassId) : List (ClassId × FieldType) := ri_kt.mapIdx (fun i t => (ka i, t))
theorem ri_tys_get {ka : Nat → ClassId} {k : Nat} {t : FieldType} (h : ri_kt[k]? = some t) : (ri_tys ka)[k]? = some (ka k, t) := by simp [ri_tys, List.getElem?_mapIdx, h]
/-- what holds of the tables and of the statics at every state of the run -/
def ri_env (D : va_G) (ka : Nat → ClassId) (sa : Nat → Nat) (base : Nat) (U : State) : Prop :=
  va_K D ri_cl (ri_tys ka) U ∧ (∀ w ∈ ri_NW, va_Nw w U) ∧ (∀ C ∈ ri_AO, va_AO C U) ∧
  (∀ (j : Nat) (t : String × String × String × Nat × (Nat → Int32)), ri_ST[j]? = some t → va_Z t.1 t.2.1 t.2.2.1 (.ref (sa j)) (fun q => base ≤ q) U U.heap ∧ va_T .int (sa j) t.2.2.2.1 (fun i => .int (t.2.2.2.2 i)) (fun q => base ≤ q) U U.heap) ∧ base ≤ U.heap.size
def ri_l (sa : Nat → Nat) (base : Nat) (ls : Array Slot) (nL : Nat) (L : ri_L) : Prop := ls.size = nL ∧ lv_wf ls ∧ ∀ (i : Nat) (v : Value), L[i]? = some (some v) → ls[i]? = some (.val (ri_v sa base v)) ∧ v.category = 1
def ri_prs (sa : Nat → Nat) (base : Nat) (L : ri_L) : List (Nat × Value) := (List.range L.length).filterMap (fun i => match L[i]? with
  | some (some v) => some (i, ri_v sa base v)
  | _ => none)
theorem ri_prs_in {sa : Nat → Nat} {base : Nat} {L : ri_L} {i : Nat} {v : Value} (h : L[i]? = some (some v)) : (i, ri_v sa base v) ∈ ri_prs sa base L := by
  refine List.mem_filterMap.mpr ⟨i, List.mem_range.mpr (List.getElem?_eq_some_iff.mp h).1, ?_⟩
  rw [h]
theorem ri_l_has {sa : Nat → Nat} {base : Nat} {ls : Array Slot} {nL : Nat} {L : ri_L} (h : ri_l sa base ls nL L) : lv_has ls nL (ri_prs sa base L) := by
  refine ⟨h.1, h.2.1, fun q hq => ?_⟩
  obtain ⟨i, -, e⟩ := List.mem_filterMap.mp hq
  split at e
  · rename_i v hv
    cases e
    exact (h.2.2 i v hv).1
  · cases e
theorem ri_l_put {sa : Nat → Nat} {base : Nat} {ls ls' : Array Slot} {nL i : Nat} {L : ri_L} {x : Value} (hl : ri_l sa base ls nL L) (hc : x.category = 1) (h' : lv_has ls' nL ((i, ri_v sa base x) :: (ri_prs sa base L).filter (fun q => !(q.1 == i) && !(q.1 + 1 == i && q.2.category == 2)))) : ri_l sa base ls' nL (L.set i (some x)) := by
  refine ⟨h'.1, h'.2.1, fun j v hj => ?_⟩
  by_cases e : j = i
  · subst e
    rw [List.getElem?_set] at hj
    simp only [if_true] at hj
    by_cases hlt : j < L.length
    · rw [if_pos hlt] at hj
      cases hj
      exact ⟨h'.2.2 (j, ri_v sa base x) List.mem_cons_self, hc⟩
    · rw [if_neg hlt] at hj
      cases hj
  · rw [List.getElem?_set_ne (Ne.symm e)] at hj
    have h2 := hl.2.2 j v hj
    refine ⟨h'.2.2 (j, ri_v sa base v) (List.mem_cons_of_mem _ (List.mem_filter.mpr ⟨ri_prs_in hj, ?_⟩)), h2.2⟩
    simp [e, ri_v_cat, h2.2]
abbrev ri_H (D : va_G) (ka : Nat → ClassId) (sa : Nat → Nat) (base : Nat) (h : List ri_C) (H : Heap) : Prop := va_P D ri_cl (ri_w sa base ka h) H ∧ H.size = base + h.length
def ri_W (p : Program) (l : Launch) (e : Env) (R : Room) (s : State) (m : MethodId) (args : Array Value) (below : List Frame) (meth : Method) (c : Code) (D : va_G) (ka : Nat → ClassId) (sa : Nat → Nat) (base nL : Nat) (Q : State → Prop) (pf : Nat → Nat) : ri_K := fun i U V L st h =>
  ∀ (H : Heap) (locs : List Loc) (ls : Array Slot), ri_H D ka sa base h H → va_S (fun q => base ≤ q) s.heap H locs → ri_l sa base ls nL L → W p l e R s m args below meth c H locs U V Q (F0 m (pf i) ls (st.map (ri_v sa base)))
def ri_X (p : Program) (s : State) (m : MethodId) (args : Array Value) (c : Code) (cc : ByteArray) (nL : Nat) (Ts : List Cond) (own : String) (D : va_G) (ka : Nat → ClassId) (sa : Nat → Nat) (base : Nat) : Prop :=
  p.tables.exec = Jvm.exec ∧ c.code = cc ∧ c.maxLocals = nL ∧ s.vm.findClass own = some m.cls ∧ (∀ w ∈ Ts, w.before args s = true) ∧ ri_env D ka sa base s
theorem ri_cat1_ok {v : Value} (h : ri_cat1 v = true) : v.category = 1 := by cases v <;> first | rfl | cases h
section RIS
variable {p : Program} {l : Launch} {e : Env} {R : Room} {s : State} {m : MethodId} {args : Array Value} {below : List Frame} {meth : Method} {c : Code} {Q : State → Prop} {cc : ByteArray} {nL : Nat} {Ts : List Cond} {own : String} {D : va_G} {ka : Nat → ClassId} {sa : Nat → Nat} {base : Nat} {pf : Nat → Nat} {i n t : Nat}

theorem s_iconst (X : ri_X p s m args c cc nL Ts own D ka sa base) {z : Int} {v : Int32} (hd : decode cc (pf i) = .ok (.iconst z, 1)) (hv : Int32.ofInt z = v) (hn : pf n = pf i + 1) : ri_snd (ri_W p l e R s m args below meth c D ka sa base nL Q pf) i (i_con n v) := by
  intro k hk U V L st h hf H locs ls hH hS hl
  have hw := hk _ _ _ _ _ _ hf H locs ls hH hS hl
  rw [hn] at hw
  exact lv_iconst X.1 X.2.1 hd hv hw
theorem s_bipush (X : ri_X p s m args c cc nL Ts own D ka sa base) {z : Int} {v : Int32} (hd : decode cc (pf i) = .ok (.bipush z, 2)) (hv : (Int8.ofInt z).toInt32 = v) (hn : pf n = pf i + 2) : ri_snd (ri_W p l e R s m args below meth c D ka sa base nL Q pf) i (i_con n v) := by
  intro k hk U V L st h hf H locs ls hH hS hl
  have hw := hk _ _ _ _ _ _ hf H locs ls hH hS hl
  rw [hn] at hw
  exact lv_bipush X.1 X.2.1 hd hv hw
theorem s_sipush (X : ri_X p s m args c cc nL Ts own D ka sa base) {z : Int} {v : Int32} (hd : decode cc (pf i) = .ok (.sipush z, 3)) (hv : (Int16.ofInt z).toInt32 = v) (hn : pf n = pf i + 3) : ri_snd (ri_W p l e R s m args below meth c D ka sa base nL Q pf) i (i_con n v) := by
  intro k hk U V L st h hf H locs ls hH hS hl
  have hw := hk _ _ _ _ _ _ hf H locs ls hH hS hl
  rw [hn] at hw
  exact lv_sipush X.1 X.2.1 hd hv hw
theorem s_ldc (X : ri_X p s m args c cc nL Ts own D ka sa base) {ix : Nat} {v : Int32} (hd : decode cc (pf i) = .ok (.ldc ix, 2)) (hv : Cond.constant own ix v ∈ Ts) (hn : pf n = pf i + 2) : ri_snd (ri_W p l e R s m args below meth c D ka sa base nL Q pf) i (i_con n v) := by
  intro k hk U V L st h hf H locs ls hH hS hl
  have hw := hk _ _ _ _ _ _ hf H locs ls hH hS hl
  rw [hn] at hw
  exact lv_ldc X.1 X.2.1 X.2.2.2.1 (X.2.2.2.2.1 _ hv) hd hw
theorem s_iload_n (X : ri_X p s m args c cc nL Ts own D ka sa base) {j : Nat} {f : Fin 4} (hd : decode cc (pf i) = .ok (.iload_n f, 1)) (hj : (f : Nat) = j) (hn : pf n = pf i + 1) : ri_snd (ri_W p l e R s m args below meth c D ka sa base nL Q pf) i (i_il n j) := by
  intro k hk U V L st h hf
  unfold i_il at hf
  split at hf
  · rename_i x hx
    intro H locs ls hH hS hl
    have hw := hk _ _ _ _ _ _ hf H locs ls hH hS hl
    rw [hn] at hw
    exact lv_iload_n X.1 X.2.1 hd hj (hl.2.2 j _ hx).1 hw
  · exact hf.elim
theorem s_iload (X : ri_X p s m args c cc nL Ts own D ka sa base) {j : Nat} (hd : decode cc (pf i) = .ok (.iload j, 2)) (hn : pf n = pf i + 2) : ri_snd (ri_W p l e R s m args below meth c D ka sa base nL Q pf) i (i_il n j) := by
  intro k hk U V L st h hf
  unfold i_il at hf
  split at hf
  · rename_i x hx
    intro H locs ls hH hS hl
    have hw := hk _ _ _ _ _ _ hf H locs ls hH hS hl
    rw [hn] at hw
    exact lv_iload X.1 X.2.1 hd (hl.2.2 j _ hx).1 hw
  · exact hf.elim
theorem s_aload_n (X : ri_X p s m args c cc nL Ts own D ka sa base) {j : Nat} {f : Fin 4} (hd : decode cc (pf i) = .ok (.aload_n f, 1)) (hj : (f : Nat) = j) (hn : pf n = pf i + 1) : ri_snd (ri_W p l e R s m args below meth c D ka sa base nL Q pf) i (i_al n j) := by
  intro k hk U V L st h hf
  unfold i_al at hf
  split at hf
  · rename_i x hx
    intro H locs ls hH hS hl
    have hw := hk _ _ _ _ _ _ hf H locs ls hH hS hl
    rw [hn] at hw
    exact lv_aload_n X.1 X.2.1 hd hj (hl.2.2 j _ hx).1 hw
  · exact hf.elim
theorem s_aload (X : ri_X p s m args c cc nL Ts own D ka sa base) {j : Nat} (hd : decode cc (pf i) = .ok (.aload j, 2)) (hn : pf n = pf i + 2) : ri_snd (ri_W p l e R s m args below meth c D ka sa base nL Q pf) i (i_al n j) := by
  intro k hk U V L st h hf
  unfold i_al at hf
  split at hf
  · rename_i x hx
    intro H locs ls hH hS hl
    have hw := hk _ _ _ _ _ _ hf H locs ls hH hS hl
    rw [hn] at hw
    exact lv_aload X.1 X.2.1 hd (hl.2.2 j _ hx).1 hw
  · exact hf.elim
theorem s_istore_n (X : ri_X p s m args c cc nL Ts own D ka sa base) {j : Nat} {f : Fin 4} (hd : decode cc (pf i) = .ok (.istore_n f, 1)) (hj : (f : Nat) = j) (hL : j < nL) (hn : pf n = pf i + 1) : ri_snd (ri_W p l e R s m args below meth c D ka sa base nL Q pf) i (i_is n j) := by
  intro k hk U V L st h hf
  unfold i_is at hf
  split at hf
  · intro H locs ls hH hS hl
    refine lv_istore_n X.1 X.2.1 hd hj (ri_l_has hl) hL rfl (fun ls' h' => ?_)
    have hw := hk _ _ _ _ _ _ hf H locs ls' hH hS (ri_l_put hl rfl h')
    rw [hn] at hw
    exact hw
  · exact hf.elim
theorem s_istore (X : ri_X p s m args c cc nL Ts own D ka sa base) {j : Nat} (hd : decode cc (pf i) = .ok (.istore j, 2)) (hL : j < nL) (hn : pf n = pf i + 2) : ri_snd (ri_W p l e R s m args below meth c D ka sa base nL Q pf) i (i_is n j) := by
  intro k hk U V L st h hf
  unfold i_is at hf
  split at hf
  · intro H locs ls hH hS hl
    refine lv_istore X.1 X.2.1 hd (ri_l_has hl) hL rfl (fun ls' h' => ?_)
    have hw := hk _ _ _ _ _ _ hf H locs ls' hH hS (ri_l_put hl rfl h')
    rw [hn] at hw
    exact hw
  · exact hf.elim
theorem s_astore_n (X : ri_X p s m args c cc nL Ts own D ka sa base) {j : Nat} {f : Fin 4} (hd : decode cc (pf i) = .ok (.astore_n f, 1)) (hj : (f : Nat) = j) (hL : j < nL) (hn : pf n = pf i + 1) : ri_snd (ri_W p l e R s m args below meth c D ka sa base nL Q pf) i (i_as n j) := by
  intro k hk U V L st h hf
  unfold i_as at hf
  split at hf
  · intro H locs ls hH hS hl
    refine lv_astore_n X.1 X.2.1 hd hj (ri_l_has hl) hL rfl (fun ls' h' => ?_)
    have hw := hk _ _ _ _ _ _ hf H locs ls' hH hS (ri_l_put hl rfl h')
    rw [hn] at hw
    exact hw
  · exact hf.elim
theorem s_astore (X : ri_X p s m args c cc nL Ts own D ka sa base) {j : Nat} (hd : decode cc (pf i) = .ok (.astore j, 2)) (hL : j < nL) (hn : pf n = pf i + 2) : ri_snd (ri_W p l e R s m args below meth c D ka sa base nL Q pf) i (i_as n j) := by
  intro k hk U V L st h hf
  unfold i_as at hf
  split at hf
  · intro H locs ls hH hS hl
    refine lv_astore X.1 X.2.1 hd (ri_l_has hl) hL rfl (fun ls' h' => ?_)
    have hw := hk _ _ _ _ _ _ hf H locs ls' hH hS (ri_l_put hl rfl h')
    rw [hn] at hw
    exact hw
  · exact hf.elim
theorem s_iinc (X : ri_X p s m args c cc nL Ts own D ka sa base) {j : Nat} {z : Int} {v : Int32} (hd : decode cc (pf i) = .ok (.iinc j z, 3)) (hv : Int32.ofInt z = v) (hL : j < nL) (hn : pf n = pf i + 3) : ri_snd (ri_W p l e R s m args below meth c D ka sa base nL Q pf) i (i_inc n j v) := by
  subst hv
  intro k hk U V L st h hf
  unfold i_inc at hf
  split at hf
  · rename_i x hx
    intro H locs ls hH hS hl
    obtain ⟨a, ha⟩ := List.getElem?_of_mem (ri_prs_in (sa := sa) (base := base) hx)
    refine lv_iinc X.1 X.2.1 hd (ri_l_has hl) ha rfl hL rfl (fun ls' h' => ?_)
    have hw := hk _ _ _ _ _ _ hf H locs ls' hH hS (ri_l_put (x := .int (x + Int32.ofInt z)) hl rfl h')
    rw [hn] at hw
    exact hw
  · exact hf.elim
theorem s_iadd (X : ri_X p s m args c cc nL Ts own D ka sa base) (hd : decode cc (pf i) = .ok (.iadd, 1)) (hn : pf n = pf i + 1) : ri_snd (ri_W p l e R s m args below meth c D ka sa base nL Q pf) i (i_bin n (fun x y => x + y)) := by
  intro k hk U V L st h hf
  unfold i_bin at hf
  split at hf
  · intro H locs ls hH hS hl
    have hw := hk _ _ _ _ _ _ hf H locs ls hH hS hl
    rw [hn] at hw
    exact lv_iadd X.1 X.2.1 hd hw
  · exact hf.elim
theorem s_isub (X : ri_X p s m args c cc nL Ts own D ka sa base) (hd : decode cc (pf i) = .ok (.isub, 1)) (hn : pf n = pf i + 1) : ri_snd (ri_W p l e R s m args below meth c D ka sa base nL Q pf) i (i_bin n (fun x y => x - y)) := by
  intro k hk U V L st h hf
  unfold i_bin at hf
  split at hf
  · intro H locs ls hH hS hl
    have hw := hk _ _ _ _ _ _ hf H locs ls hH hS hl
    rw [hn] at hw
    exact lv_isub X.1 X.2.1 hd hw
  · exact hf.elim
theorem s_imul (X : ri_X p s m args c cc nL Ts own D ka sa base) (hd : decode cc (pf i) = .ok (.imul, 1)) (hn : pf n = pf i + 1) : ri_snd (ri_W p l e R s m args below meth c D ka sa base nL Q pf) i (i_bin n (fun x y => x * y)) := by
  intro k hk U V L st h hf
  unfold i_bin at hf
  split at hf
  · intro H locs ls hH hS hl
    have hw := hk _ _ _ _ _ _ hf H locs ls hH hS hl
    rw [hn] at hw
    exact lv_imul X.1 X.2.1 hd hw
  · exact hf.elim
theorem s_iand (X : ri_X p s m args c cc nL Ts own D ka sa base) (hd : decode cc (pf i) = .ok (.iand, 1)) (hn : pf n = pf i + 1) : ri_snd (ri_W p l e R s m args below meth c D ka sa base nL Q pf) i (i_bin n (fun x y => x &&& y)) := by
  intro k hk U V L st h hf
  unfold i_bin at hf
  split at hf
  · intro H locs ls hH hS hl
    have hw := hk _ _ _ _ _ _ hf H locs ls hH hS hl
    rw [hn] at hw
    exact lv_iand X.1 X.2.1 hd hw
  · exact hf.elim
theorem s_ior (X : ri_X p s m args c cc nL Ts own D ka sa base) (hd : decode cc (pf i) = .ok (.ior, 1)) (hn : pf n = pf i + 1) : ri_snd (ri_W p l e R s m args below meth c D ka sa base nL Q pf) i (i_bin n (fun x y => x ||| y)) := by
  intro k hk U V L st h hf
  unfold i_bin at hf
  split at hf
  · intro H locs ls hH hS hl
    have hw := hk _ _ _ _ _ _ hf H locs ls hH hS hl
    rw [hn] at hw
    exact lv_ior X.1 X.2.1 hd hw
  · exact hf.elim
theorem s_ixor (X : ri_X p s m args c cc nL Ts own D ka sa base) (hd : decode cc (pf i) = .ok (.ixor, 1)) (hn : pf n = pf i + 1) : ri_snd (ri_W p l e R s m args below meth c D ka sa base nL Q pf) i (i_bin n (fun x y => x ^^^ y)) := by
  intro k hk U V L st h hf
  unfold i_bin at hf
  split at hf
  · intro H locs ls hH hS hl
    have hw := hk _ _ _ _ _ _ hf H locs ls hH hS hl
    rw [hn] at hw
    exact lv_ixor X.1 X.2.1 hd hw
  · exact hf.elim
theorem s_ishl (X : ri_X p s m args c cc nL Ts own D ka sa base) (hd : decode cc (pf i) = .ok (.ishl, 1)) (hn : pf n = pf i + 1) : ri_snd (ri_W p l e R s m args below meth c D ka sa base nL Q pf) i (i_bin n (fun x y => x <<< (y &&& 31))) := by
  intro k hk U V L st h hf
  unfold i_bin at hf
  split at hf
  · intro H locs ls hH hS hl
    have hw := hk _ _ _ _ _ _ hf H locs ls hH hS hl
    rw [hn] at hw
    exact lv_ishl X.1 X.2.1 hd hw
  · exact hf.elim
theorem s_ishr (X : ri_X p s m args c cc nL Ts own D ka sa base) (hd : decode cc (pf i) = .ok (.ishr, 1)) (hn : pf n = pf i + 1) : ri_snd (ri_W p l e R s m args below meth c D ka sa base nL Q pf) i (i_bin n (fun x y => x >>> (y &&& 31))) := by
  intro k hk U V L st h hf
  unfold i_bin at hf
  split at hf
  · intro H locs ls hH hS hl
    have hw := hk _ _ _ _ _ _ hf H locs ls hH hS hl
    rw [hn] at hw
    exact lv_ishr X.1 X.2.1 hd hw
  · exact hf.elim
theorem s_iushr (X : ri_X p s m args c cc nL Ts own D ka sa base) (hd : decode cc (pf i) = .ok (.iushr, 1)) (hn : pf n = pf i + 1) : ri_snd (ri_W p l e R s m args below meth c D ka sa base nL Q pf) i (i_bin n (fun x y => (x.toUInt32 >>> (y.toUInt32 &&& Int32.toUInt32 31)).toInt32)) := by
  intro k hk U V L st h hf
  unfold i_bin at hf
  split at hf
  · intro H locs ls hH hS hl
    have hw := hk _ _ _ _ _ _ hf H locs ls hH hS hl
    rw [hn] at hw
    exact lv_iushr X.1 X.2.1 hd rfl hw
  · exact hf.elim
theorem s_idiv (X : ri_X p s m args c cc nL Ts own D ka sa base) (hd : decode cc (pf i) = .ok (.idiv, 1)) (hn : pf n = pf i + 1) : ri_snd (ri_W p l e R s m args below meth c D ka sa base nL Q pf) i (i_div n (fun x y => x / y)) := by
  intro k hk U V L st h hf
  unfold i_div at hf
  split at hf
  · intro H locs ls hH hS hl
    have hw := hk _ _ _ _ _ _ hf.2 H locs ls hH hS hl
    rw [hn] at hw
    exact lv_idiv X.1 X.2.1 hd hf.1 hw
  · exact hf.elim
theorem s_irem (X : ri_X p s m args c cc nL Ts own D ka sa base) (hd : decode cc (pf i) = .ok (.irem, 1)) (hn : pf n = pf i + 1) : ri_snd (ri_W p l e R s m args below meth c D ka sa base nL Q pf) i (i_div n (fun x y => x - x / y * y)) := by
  intro k hk U V L st h hf
  unfold i_div at hf
  split at hf
  · intro H locs ls hH hS hl
    have hw := hk _ _ _ _ _ _ hf.2 H locs ls hH hS hl
    rw [hn] at hw
    exact lv_irem X.1 X.2.1 hd hf.1 hw
  · exact hf.elim
theorem s_ineg (X : ri_X p s m args c cc nL Ts own D ka sa base) (hd : decode cc (pf i) = .ok (.ineg, 1)) (hn : pf n = pf i + 1) : ri_snd (ri_W p l e R s m args below meth c D ka sa base nL Q pf) i (i_un n (fun x => -x)) := by
  intro k hk U V L st h hf
  unfold i_un at hf
  split at hf
  · intro H locs ls hH hS hl
    have hw := hk _ _ _ _ _ _ hf H locs ls hH hS hl
    rw [hn] at hw
    exact lv_ineg X.1 X.2.1 hd hw
  · exact hf.elim
theorem s_if_eq (X : ri_X p s m args c cc nL Ts own D ka sa base) {off : Int} (hd : decode cc (pf i) = .ok (.ifCond .eq off, 3)) (ht : (pf i : Int) + off = (pf t : Int)) (hn : pf n = pf i + 3) : ri_snd (ri_W p l e R s m args below meth c D ka sa base nL Q pf) i (i_if n t (fun x => x = 0)) := by
  intro k hk U V L st h hf
  unfold i_if at hf
  split at hf
  · intro H locs ls hH hS hl
    refine lv_if_eq X.1 X.2.1 hd ht (fun q => hk _ _ _ _ _ _ (hf.1 q) H locs ls hH hS hl) (fun q => ?_)
    have hw := hk _ _ _ _ _ _ (hf.2 (by first | exact q | exact fun z => z q)) H locs ls hH hS hl
    rw [hn] at hw
    exact hw
  · exact hf.elim
theorem s_icmp_eq (X : ri_X p s m args c cc nL Ts own D ka sa base) {off : Int} (hd : decode cc (pf i) = .ok (.if_icmp .eq off, 3)) (ht : (pf i : Int) + off = (pf t : Int)) (hn : pf n = pf i + 3) : ri_snd (ri_W p l e R s m args below meth c D ka sa base nL Q pf) i (i_icmp n t (fun x y => x = y)) := by
  intro k hk U V L st h hf
  unfold i_icmp at hf
  split at hf
  · intro H locs ls hH hS hl
    refine lv_icmp_eq X.1 X.2.1 hd ht (fun q => hk _ _ _ _ _ _ (hf.1 q) H locs ls hH hS hl) (fun q => ?_)
    have hw := hk _ _ _ _ _ _ (hf.2 (by first | exact q | exact fun z => z q)) H locs ls hH hS hl
    rw [hn] at hw
    exact hw
  · exact hf.elim
theorem s_if_ne (X : ri_X p s m args c cc nL Ts own D ka sa base) {off : Int} (hd : decode cc (pf i) = .ok (.ifCond .ne off, 3)) (ht : (pf i : Int) + off = (pf t : Int)) (hn : pf n = pf i + 3) : ri_snd (ri_W p l e R s m args below meth c D ka sa base nL Q pf) i (i_if n t (fun x => ¬ x = 0)) := by
  intro k hk U V L st h hf
  unfold i_if at hf
  split at hf
  · intro H locs ls hH hS hl
    refine lv_if_ne X.1 X.2.1 hd ht (fun q => hk _ _ _ _ _ _ (hf.1 q) H locs ls hH hS hl) (fun q => ?_)
    have hw := hk _ _ _ _ _ _ (hf.2 (by first | exact q | exact fun z => z q)) H locs ls hH hS hl
    rw [hn] at hw
    exact hw
  · exact hf.elim
theorem s_icmp_ne (X : ri_X p s m args c cc nL Ts own D ka sa base) {off : Int} (hd : decode cc (pf i) = .ok (.if_icmp .ne off, 3)) (ht : (pf i : Int) + off = (pf t : Int)) (hn : pf n = pf i + 3) : ri_snd (ri_W p l e R s m args below meth c D ka sa base nL Q pf) i (i_icmp n t (fun x y => ¬ x = y)) := by
  intro k hk U V L st h hf
  unfold i_icmp at hf
  split at hf
  · intro H locs ls hH hS hl
    refine lv_icmp_ne X.1 X.2.1 hd ht (fun q => hk _ _ _ _ _ _ (hf.1 q) H locs ls hH hS hl) (fun q => ?_)
    have hw := hk _ _ _ _ _ _ (hf.2 (by first | exact q | exact fun z => z q)) H locs ls hH hS hl
    rw [hn] at hw
    exact hw
  · exact hf.elim
theorem s_if_lt (X : ri_X p s m args c cc nL Ts own D ka sa base) {off : Int} (hd : decode cc (pf i) = .ok (.ifCond .lt off, 3)) (ht : (pf i : Int) + off = (pf t : Int)) (hn : pf n = pf i + 3) : ri_snd (ri_W p l e R s m args below meth c D ka sa base nL Q pf) i (i_if n t (fun x => x < 0)) := by
  intro k hk U V L st h hf
  unfold i_if at hf
  split at hf
  · intro H locs ls hH hS hl
    refine lv_if_lt X.1 X.2.1 hd ht (fun q => hk _ _ _ _ _ _ (hf.1 q) H locs ls hH hS hl) (fun q => ?_)
    have hw := hk _ _ _ _ _ _ (hf.2 (by first | exact q | exact fun z => z q)) H locs ls hH hS hl
    rw [hn] at hw
    exact hw
  · exact hf.elim
theorem s_icmp_lt (X : ri_X p s m args c cc nL Ts own D ka sa base) {off : Int} (hd : decode cc (pf i) = .ok (.if_icmp .lt off, 3)) (ht : (pf i : Int) + off = (pf t : Int)) (hn : pf n = pf i + 3) : ri_snd (ri_W p l e R s m args below meth c D ka sa base nL Q pf) i (i_icmp n t (fun x y => x < y)) := by
  intro k hk U V L st h hf
  unfold i_icmp at hf
  split at hf
  · intro H locs ls hH hS hl
    refine lv_icmp_lt X.1 X.2.1 hd ht (fun q => hk _ _ _ _ _ _ (hf.1 q) H locs ls hH hS hl) (fun q => ?_)
    have hw := hk _ _ _ _ _ _ (hf.2 (by first | exact q | exact fun z => z q)) H locs ls hH hS hl
    rw [hn] at hw
    exact hw
  · exact hf.elim
theorem s_if_ge (X : ri_X p s m args c cc nL Ts own D ka sa base) {off : Int} (hd : decode cc (pf i) = .ok (.ifCond .ge off, 3)) (ht : (pf i : Int) + off = (pf t : Int)) (hn : pf n = pf i + 3) : ri_snd (ri_W p l e R s m args below meth c D ka sa base nL Q pf) i (i_if n t (fun x => 0 ≤ x)) := by
  intro k hk U V L st h hf
  unfold i_if at hf
  split at hf
  · intro H locs ls hH hS hl
    refine lv_if_ge X.1 X.2.1 hd ht (fun q => hk _ _ _ _ _ _ (hf.1 q) H locs ls hH hS hl) (fun q => ?_)
    have hw := hk _ _ _ _ _ _ (hf.2 (by first | exact q | exact fun z => z q)) H locs ls hH hS hl
    rw [hn] at hw
    exact hw
  · exact hf.elim
theorem s_icmp_ge (X : ri_X p s m args c cc nL Ts own D ka sa base) {off : Int} (hd : decode cc (pf i) = .ok (.if_icmp .ge off, 3)) (ht : (pf i : Int) + off = (pf t : Int)) (hn : pf n = pf i + 3) : ri_snd (ri_W p l e R s m args below meth c D ka sa base nL Q pf) i (i_icmp n t (fun x y => y ≤ x)) := by
  intro k hk U V L st h hf
  unfold i_icmp at hf
  split at hf
  · intro H locs ls hH hS hl
    refine lv_icmp_ge X.1 X.2.1 hd ht (fun q => hk _ _ _ _ _ _ (hf.1 q) H locs ls hH hS hl) (fun q => ?_)
    have hw := hk _ _ _ _ _ _ (hf.2 (by first | exact q | exact fun z => z q)) H locs ls hH hS hl
    rw [hn] at hw
    exact hw
  · exact hf.elim
theorem s_if_gt (X : ri_X p s m args c cc nL Ts own D ka sa base) {off : Int} (hd : decode cc (pf i) = .ok (.ifCond .gt off, 3)) (ht : (pf i : Int) + off = (pf t : Int)) (hn : pf n = pf i + 3) : ri_snd (ri_W p l e R s m args below meth c D ka sa base nL Q pf) i (i_if n t (fun x => 0 < x)) := by
  intro k hk U V L st h hf
  unfold i_if at hf
  split at hf
  · intro H locs ls hH hS hl
    refine lv_if_gt X.1 X.2.1 hd ht (fun q => hk _ _ _ _ _ _ (hf.1 q) H locs ls hH hS hl) (fun q => ?_)
    have hw := hk _ _ _ _ _ _ (hf.2 (by first | exact q | exact fun z => z q)) H locs ls hH hS hl
    rw [hn] at hw
    exact hw
  · exact hf.elim
theorem s_icmp_gt (X : ri_X p s m args c cc nL Ts own D ka sa base) {off : Int} (hd : decode cc (pf i) = .ok (.if_icmp .gt off, 3)) (ht : (pf i : Int) + off = (pf t : Int)) (hn : pf n = pf i + 3) : ri_snd (ri_W p l e R s m args below meth c D ka sa base nL Q pf) i (i_icmp n t (fun x y => y < x)) := by
  intro k hk U V L st h hf
  unfold i_icmp at hf
  split at hf
  · intro H locs ls hH hS hl
    refine lv_icmp_gt X.1 X.2.1 hd ht (fun q => hk _ _ _ _ _ _ (hf.1 q) H locs ls hH hS hl) (fun q => ?_)
    have hw := hk _ _ _ _ _ _ (hf.2 (by first | exact q | exact fun z => z q)) H locs ls hH hS hl
    rw [hn] at hw
    exact hw
  · exact hf.elim
theorem s_if_le (X : ri_X p s m args c cc nL Ts own D ka sa base) {off : Int} (hd : decode cc (pf i) = .ok (.ifCond .le off, 3)) (ht : (pf i : Int) + off = (pf t : Int)) (hn : pf n = pf i + 3) : ri_snd (ri_W p l e R s m args below meth c D ka sa base nL Q pf) i (i_if n t (fun x => x ≤ 0)) := by
  intro k hk U V L st h hf
  unfold i_if at hf
  split at hf
  · intro H locs ls hH hS hl
    refine lv_if_le X.1 X.2.1 hd ht (fun q => hk _ _ _ _ _ _ (hf.1 q) H locs ls hH hS hl) (fun q => ?_)
    have hw := hk _ _ _ _ _ _ (hf.2 (by first | exact q | exact fun z => z q)) H locs ls hH hS hl
    rw [hn] at hw
    exact hw
  · exact hf.elim
theorem s_icmp_le (X : ri_X p s m args c cc nL Ts own D ka sa base) {off : Int} (hd : decode cc (pf i) = .ok (.if_icmp .le off, 3)) (ht : (pf i : Int) + off = (pf t : Int)) (hn : pf n = pf i + 3) : ri_snd (ri_W p l e R s m args below meth c D ka sa base nL Q pf) i (i_icmp n t (fun x y => x ≤ y)) := by
  intro k hk U V L st h hf
  unfold i_icmp at hf
  split at hf
  · intro H locs ls hH hS hl
    refine lv_icmp_le X.1 X.2.1 hd ht (fun q => hk _ _ _ _ _ _ (hf.1 q) H locs ls hH hS hl) (fun q => ?_)
    have hw := hk _ _ _ _ _ _ (hf.2 (by first | exact q | exact fun z => z q)) H locs ls hH hS hl
    rw [hn] at hw
    exact hw
  · exact hf.elim
theorem s_goto (X : ri_X p s m args c cc nL Ts own D ka sa base) {off : Int} (hd : decode cc (pf i) = .ok (.goto off, 3)) (ht : (pf i : Int) + off = (pf t : Int)) : ri_snd (ri_W p l e R s m args below meth c D ka sa base nL Q pf) i (i_goto t) := by
  intro k hk U V L st h hf H locs ls hH hS hl
  exact lv_goto X.1 X.2.1 hd ht (hk _ _ _ _ _ _ hf H locs ls hH hS hl)
theorem s_dup (X : ri_X p s m args c cc nL Ts own D ka sa base) (hd : decode cc (pf i) = .ok (.dup, 1)) (hn : pf n = pf i + 1) : ri_snd (ri_W p l e R s m args below meth c D ka sa base nL Q pf) i (i_dup n) := by
  intro k hk U V L st h hf
  unfold i_dup at hf
  split at hf
  · rename_i a r
    cases ha : ri_cat1 a with
    | false => rw [ha] at hf; exact hf.elim
    | true =>
      rw [ha] at hf
      intro H locs ls hH hS hl
      have hw := hk _ _ _ _ _ _ hf H locs ls hH hS hl
      rw [hn] at hw
      exact lv_dup X.1 X.2.1 hd (by rw [ri_v_cat]; exact ri_cat1_ok ha) hw
  · exact hf.elim
theorem s_pop (X : ri_X p s m args c cc nL Ts own D ka sa base) (hd : decode cc (pf i) = .ok (.pop, 1)) (hn : pf n = pf i + 1) : ri_snd (ri_W p l e R s m args below meth c D ka sa base nL Q pf) i (i_pop n) := by
  intro k hk U V L st h hf
  unfold i_pop at hf
  split at hf
  · rename_i a r
    cases ha : ri_cat1 a with
    | false => rw [ha] at hf; exact hf.elim
    | true =>
      rw [ha] at hf
      intro H locs ls hH hS hl
      have hw := hk _ _ _ _ _ _ hf H locs ls hH hS hl
      rw [hn] at hw
      exact lv_pop X.1 X.2.1 hd (va := ri_v sa base a) (by rw [ri_v_cat]; exact ri_cat1_ok ha) hw
  · exact hf.elim
theorem s_dup2 (X : ri_X p s m args c cc nL Ts own D ka sa base) (hd : decode cc (pf i) = .ok (.dup2, 1)) (hn : pf n = pf i + 1) : ri_snd (ri_W p l e R s m args below meth c D ka sa base nL Q pf) i (i_dup2 n) := by
  intro k hk U V L st h hf
  unfold i_dup2 at hf
  split at hf
  · rename_i a b r
    cases ha : ri_cat1 a <;> cases hb : ri_cat1 b <;> rw [ha, hb] at hf <;> first | exact hf.elim | skip
    intro H locs ls hH hS hl
    have hw := hk _ _ _ _ _ _ hf H locs ls hH hS hl
    rw [hn] at hw
    exact lv_dup2_11 X.1 X.2.1 hd (va := ri_v sa base a) (vb := ri_v sa base b) (by rw [ri_v_cat]; exact ri_cat1_ok ha) (by rw [ri_v_cat]; exact ri_cat1_ok hb) hw
  · exact hf.elim
theorem s_dup_x1 (X : ri_X p s m args c cc nL Ts own D ka sa base) (hd : decode cc (pf i) = .ok (.dup_x1, 1)) (hn : pf n = pf i + 1) : ri_snd (ri_W p l e R s m args below meth c D ka sa base nL Q pf) i (i_dupx1 n) := by
  intro k hk U V L st h hf
  unfold i_dupx1 at hf
  split at hf
  · rename_i a b r
    cases ha : ri_cat1 a <;> cases hb : ri_cat1 b <;> rw [ha, hb] at hf <;> first | exact hf.elim | skip
    intro H locs ls hH hS hl
    have hw := hk _ _ _ _ _ _ hf H locs ls hH hS hl
    rw [hn] at hw
    exact lv_dup_x1 X.1 X.2.1 hd (va := ri_v sa base a) (vb := ri_v sa base b) (by rw [ri_v_cat]; exact ri_cat1_ok ha) (by rw [ri_v_cat]; exact ri_cat1_ok hb) hw
  · exact hf.elim
theorem s_dup_x2 (X : ri_X p s m args c cc nL Ts own D ka sa base) (hd : decode cc (pf i) = .ok (.dup_x2, 1)) (hn : pf n = pf i + 1) : ri_snd (ri_W p l e R s m args below meth c D ka sa base nL Q pf) i (i_dupx2 n) := by
  intro k hk U V L st h hf
  unfold i_dupx2 at hf
  split at hf
  · rename_i a b d r
    cases ha : ri_cat1 a <;> cases hb : ri_cat1 b <;> cases hd3 : ri_cat1 d <;> rw [ha, hb, hd3] at hf <;> first | exact hf.elim | skip
    intro H locs ls hH hS hl
    have hw := hk _ _ _ _ _ _ hf H locs ls hH hS hl
    rw [hn] at hw
    exact lv_dup_x2 X.1 X.2.1 hd (va := ri_v sa base a) (vb := ri_v sa base b) (vd := ri_v sa base d) (by rw [ri_v_cat]; exact ri_cat1_ok ha) (by rw [ri_v_cat]; exact ri_cat1_ok hb) (by rw [ri_v_cat]; exact ri_cat1_ok hd3) hw
  · exact hf.elim
end RIS
end
section
/-! fields, arrays, statics, new, switches, ends -/
theorem ri_at_hi {h : List ri_C} {q : Nat} (hq : Nat.ble 16 q = true) : ri_at h q = h[q - 16]? := by unfold ri_at; rw [hq]; rfl
theorem ri_at_lo {h : List ri_C} {q : Nat} (hq : Nat.ble 16 q = false) : ri_at h q = (ri_ST[q]?).map (fun t => .inl (0, t.2.2.2.1, .inl t.2.2.2.2)) := by unfold ri_at; rw [hq]; rfl
theorem ri_ad_hi {sa : Nat → Nat} {base q : Nat} (hq : Nat.ble 16 q = true) : ri_ad sa base q = base + (q - 16) := by unfold ri_ad; rw [hq]; rfl
theorem ri_ad_lo {sa : Nat → Nat} {base q : Nat} (hq : Nat.ble 16 q = false) : ri_ad sa base q = sa q := by unfold ri_ad; rw [hq]; rfl
theorem ri_rf {sa : Nat → Nat} {base : Nat} (r : Option Nat) : ri_v sa base (va_rf r) = va_rf (r.map (ri_ad sa base)) := by cases r <;> rfl
section RIT
variable {p : Program} {l : Launch} {e : Env} {R : Room} {s : State} {m : MethodId} {args : Array Value} {below : List Frame} {meth : Method} {c : Code} {Q : State → Prop} {cc : ByteArray} {nL : Nat} {Ts : List Cond} {own : String} {D : va_G} {ka : Nat → ClassId} {sa : Nat → Nat} {base : Nat} {pf : Nat → Nat} {i n t : Nat}

theorem s_get (X : ri_X p s m args c cc nL Ts own D ka sa base) {ci f ix N : Nat} {C : String} {T : u_T} (hc : ri_cl[ci]? = some (C, T, N)) (hin : ∀ w ∈ u_ws C T N, w ∈ Ts) (hfN : f < N) (hlink : Cond.fieldLink own ix (T f).1 (T f).2.1 (T f).2.2.1 ∈ Ts) (hd : decode cc (pf i) = .ok (.getfield ix, 3)) (hn : pf n = pf i + 3) : ri_snd (ri_W p l e R s m args below meth c D ka sa base nL Q pf) i (i_get n ci f) := by
  intro k hk U V L st h hf
  unfold i_get at hf
  split at hf
  · rename_i q r
    split at hf
    · rename_i c' fs hat
      replace hf := ri_bif hf; obtain ⟨hB, hf⟩ := hf
      obtain ⟨hq, hb⟩ := ri_and hB
      have hcc : c' = ci := Nat.eq_of_beq_eq_true hb
      subst hcc
      rw [ri_at_hi hq] at hat
      split at hf
      · rename_i v hv
        intro H locs ls hH hS hl
        have hw := hk _ _ _ _ _ _ hf H locs ls hH hS hl
        rw [hn] at hw
        show W p l e R s m args below meth c H locs U V Q (F0 m (pf i) ls (.ref (ri_ad sa base q) :: r.map (ri_v sa base)))
        rw [ri_ad_hi hq]
        exact va_get X.1 X.2.1 X.2.2.2.2.1 hin X.2.2.2.1 X.2.2.2.2.2.1 hH.1 (q - 16) (fs := fs.map (ri_v sa base)) (ri_w_get hat) hc f hfN (X.2.2.2.2.1 _ hlink) (fun _ z => z) (v := ri_v sa base v) (by simp [hv]) hd hw
      · exact hf.elim
    · exact hf.elim
  · exact hf.elim
theorem s_getN (X : ri_X p s m args c cc nL Ts own D ka sa base) {ci f ix N : Nat} {C : String} {T : u_T} (hc : ri_cl[ci]? = some (C, T, N)) (hin : ∀ w ∈ u_ws C T N, w ∈ Ts) (hfN : f < N) {host : String} (hlink : Cond.fieldLinkNest own ix (T f).1 (T f).2.1 (T f).2.2.1 host ∈ ri_NW) (hd : decode cc (pf i) = .ok (.getfield ix, 3)) (hn : pf n = pf i + 3) : ri_snd (ri_W p l e R s m args below meth c D ka sa base nL Q pf) i (i_get n ci f) := by
  intro k hk U V L st h hf
  unfold i_get at hf
  split at hf
  · rename_i q r
    split at hf
    · rename_i c' fs hat
      replace hf := ri_bif hf; obtain ⟨hB, hf⟩ := hf
      obtain ⟨hq, hb⟩ := ri_and hB
      have hcc : c' = ci := Nat.eq_of_beq_eq_true hb
      subst hcc
      rw [ri_at_hi hq] at hat
      split at hf
      · rename_i v hv
        intro H locs ls hH hS hl
        have hw := hk _ _ _ _ _ _ hf H locs ls hH hS hl
        rw [hn] at hw
        show W p l e R s m args below meth c H locs U V Q (F0 m (pf i) ls (.ref (ri_ad sa base q) :: r.map (ri_v sa base)))
        rw [ri_ad_hi hq]
        exact va_getN X.1 X.2.1 X.2.2.2.2.1 hin X.2.2.2.1 X.2.2.2.2.2.1 hH.1 (q - 16) (fs := fs.map (ri_v sa base)) (ri_w_get hat) hc f hfN (va_Nw.use rfl (X.2.2.2.2.2.2.1 _ hlink)) (fun _ z => z) (v := ri_v sa base v) (by simp [hv]) hd hw
      · exact hf.elim
    · exact hf.elim
  · exact hf.elim
theorem ri_put_core (X : ri_X p s m args c cc nL Ts own D ka sa base) {ci f N : Nat} {C : String} {T : u_T} (hc : ri_cl[ci]? = some (C, T, N)) (hin : ∀ w ∈ u_ws C T N, w ∈ Ts) (hfN : f < N) (ty0 : Nat → FieldType) (hty : ∀ k, k < N → parseFieldDescriptor (T k).2.2.1 = some (ty0 k)) (hnm : ∀ a, a < N → ∀ b, b < N → a ≠ b → (T a).2.1 ≠ (T b).2.1) {h : List ri_C} {j : Nat} {fs : List Value} {v : Value} (hat : h[j]? = some (.inr (ci, fs))) (hlen : f < fs.length) {H : Heap} (hH : ri_H D ka sa base h H) :
    ∃ (cf fi : Nat) (kf : Class) (fd : Field) (cell : Cell), s.fieldFound? (T f).1 (T f).2.1 (T f).2.2.1 = some (cf, kf, fi, fd) ∧ fd.isStatic = false ∧ H[base + j]? = some cell ∧ cell.cls = D.1 ci ∧ cell.vm = .none ∧ fd.slot < cell.slots.size ∧
      (∀ H' : Heap, H'[base + j]? = some (cell.setSlot fd.slot (ri_v sa base v)) → H'.size = H.size → (∀ q, q ≠ base + j → H'[q]? = H[q]?) → ri_H D ka sa base (h.set j (.inr (ci, fs.set f v))) H') := by
  have hap := va_apart (own := own) X.2.2.2.2.1 hin ty0 hty hnm X.2.2.2.2.2.1 hc
  have he := ri_w_get (sa := sa) (base := base) (ka := ka) hat
  obtain ⟨r, h1, cell, q1, q2, q3, q4⟩ := hH.1 j _ he
  have hr : r = (C, T, N) := Option.some.inj (h1.symm.trans hc)
  subst hr
  obtain ⟨hS, hfc, kC, hkC, hkind⟩ := X.2.2.2.2.2.1.1 ci _ hc
  obtain ⟨cf, kf, fi, fd, hi, hsl⟩ := hS f hfN
  have hst := (u_facts hfc hkC (u_lays X.2.2.2.2.1 hin hfN) hi).1
  refine ⟨cf, fi, kf, fd, cell, hi, hst, q1, q2, q3, by rw [hsl]; exact k2_hasslot (q4 f hfN), fun H' e1 e2 e3 => ?_⟩
  rw [hsl] at e1
  have hP1 := hH.1.set ri_w_D he (e := .inr (ci, (fs.map (ri_v sa base)).set f (ri_v sa base v))) ⟨_, hc, t_OB.to (V := updV (vp_V (fs.map (ri_v sa base))) f (ri_v sa base v)) ⟨_, e1, q2, q3, t_set q4 hap hfN (ri_v sa base v)⟩ (fun k _ => vp_updV_set (by simpa using hlen) (ri_v sa base v) k)⟩ e3
  refine ⟨?_, by rw [e2, List.length_set]; exact hH.2⟩
  rw [← ri_w_set]
  show va_P D ri_cl ((ri_w sa base ka h).set j (base + j, .inr (ci, (fs.set f v).map (ri_v sa base)))) H'
  rw [List.map_set]
  exact hP1
theorem s_put (X : ri_X p s m args c cc nL Ts own D ka sa base) {ci f ix N : Nat} {C : String} {T : u_T} (hc : ri_cl[ci]? = some (C, T, N)) (hin : ∀ w ∈ u_ws C T N, w ∈ Ts) (hfN : f < N) (ty0 : Nat → FieldType) (hty : ∀ k, k < N → parseFieldDescriptor (T k).2.2.1 = some (ty0 k)) (hnm : ∀ a, a < N → ∀ b, b < N → a ≠ b → (T a).2.1 ≠ (T b).2.1) (hfin : (T f).2.2.2 = false) {ok : Value → Bool} (hok : ∀ v, ok v = true → narrow (ty0 f) (ri_v sa base v) = ri_v sa base v ∧ fits (ty0 f) (ri_v sa base v) = true) (hlink : Cond.fieldLink own ix (T f).1 (T f).2.1 (T f).2.2.1 ∈ Ts) (hd : decode cc (pf i) = .ok (.putfield ix, 3)) (hn : pf n = pf i + 3) : ri_snd (ri_W p l e R s m args below meth c D ka sa base nL Q pf) i (i_put n ci f ok) := by
  intro k hk U V L st h hf
  unfold i_put at hf
  split at hf
  · rename_i v q r
    split at hf
    · rename_i c' fs hat
      replace hf := ri_bif hf; obtain ⟨hB, hf⟩ := hf
      replace hB := ri_and hB; obtain ⟨hv, hB⟩ := hB
      replace hB := ri_and hB; obtain ⟨hq, hB⟩ := hB
      obtain ⟨hb, hl9⟩ := ri_and hB
      have hcc : c' = ci := Nat.eq_of_beq_eq_true hb
      subst hcc
      rw [ri_at_hi hq] at hat
      intro H locs ls hH hS hl
      show W p l e R s m args below meth c H locs U V Q (F0 m (pf i) ls (ri_v sa base v :: .ref (ri_ad sa base q) :: r.map (ri_v sa base)))
      rw [ri_ad_hi hq]
      have hlen : f < fs.length := Nat.le_of_ble_eq_true hl9
      obtain ⟨cf, fi, kf, fd, cell, hi, hst, hcell, hcl, hvm, hlt, hgo⟩ := ri_put_core X hc hin hfN ty0 hty hnm (v := v) hat hlen hH
      obtain ⟨-, hfc, kC, hkC, hkind⟩ := X.2.2.2.2.2.1.1 c' _ hc
      have hlay := X.2.2.2.2.1 _ (hin _ (u_in_lay hfN))
      unfold u_lay at hlay
      rw [if_neg (by rw [hfin]; decide)] at hlay
      refine W.putK X.1 X.2.1 (f := fd) ⟨X.2.2.2.1, X.2.2.2.2.1 _ hlink, ⟨_, _, _, hi⟩, hst⟩ (by rw [hcl]; exact u_store hfc hkC hkind hlay hi (hty f hfN) (hok v hv).1 (hok v hv).2) hcell hvm hlt rfl rfl hd fun H' e1 e2 e3 => ?_
      have hw := hk _ _ _ _ _ _ hf H' _ ls (hgo H' e1 e2 e3) (hS.put (k := fd.slot) e2 e3 (show base ≤ base + (q - 16) by omega)) hl
      rw [hn] at hw
      exact hw
    · exact hf.elim
  · exact hf.elim
theorem s_putN (X : ri_X p s m args c cc nL Ts own D ka sa base) {ci f ix N : Nat} {C : String} {T : u_T} (hc : ri_cl[ci]? = some (C, T, N)) (hin : ∀ w ∈ u_ws C T N, w ∈ Ts) (hfN : f < N) (ty0 : Nat → FieldType) (hty : ∀ k, k < N → parseFieldDescriptor (T k).2.2.1 = some (ty0 k)) (hnm : ∀ a, a < N → ∀ b, b < N → a ≠ b → (T a).2.1 ≠ (T b).2.1) (hfin : (T f).2.2.2 = false) {ok : Value → Bool} (hok : ∀ v, ok v = true → narrow (ty0 f) (ri_v sa base v) = ri_v sa base v ∧ fits (ty0 f) (ri_v sa base v) = true) {host : String} (hlink : Cond.fieldLinkNest own ix (T f).1 (T f).2.1 (T f).2.2.1 host ∈ ri_NW) (hd : decode cc (pf i) = .ok (.putfield ix, 3)) (hn : pf n = pf i + 3) : ri_snd (ri_W p l e R s m args below meth c D ka sa base nL Q pf) i (i_put n ci f ok) := by
  intro k hk U V L st h hf
  unfold i_put at hf
  split at hf
  · rename_i v q r
    split at hf
    · rename_i c' fs hat
      replace hf := ri_bif hf; obtain ⟨hB, hf⟩ := hf
      replace hB := ri_and hB; obtain ⟨hv, hB⟩ := hB
      replace hB := ri_and hB; obtain ⟨hq, hB⟩ := hB
      obtain ⟨hb, hl9⟩ := ri_and hB
      have hcc : c' = ci := Nat.eq_of_beq_eq_true hb
      subst hcc
      rw [ri_at_hi hq] at hat
      intro H locs ls hH hS hl
      show W p l e R s m args below meth c H locs U V Q (F0 m (pf i) ls (ri_v sa base v :: .ref (ri_ad sa base q) :: r.map (ri_v sa base)))
      rw [ri_ad_hi hq]
      have hlen : f < fs.length := Nat.le_of_ble_eq_true hl9
      obtain ⟨cf, fi, kf, fd, cell, hi, hst, hcell, hcl, hvm, hlt, hgo⟩ := ri_put_core X hc hin hfN ty0 hty hnm (v := v) hat hlen hH
      obtain ⟨-, hfc, kC, hkC, hkind⟩ := X.2.2.2.2.2.1.1 c' _ hc
      have hlay := X.2.2.2.2.1 _ (hin _ (u_in_lay hfN))
      unfold u_lay at hlay
      rw [if_neg (by rw [hfin]; decide)] at hlay
      refine va_WputK X.1 X.2.1 (f := fd) X.2.2.2.1 (va_Nw.use rfl (X.2.2.2.2.2.2.1 _ hlink)) hi hst (by rw [hcl]; exact u_store hfc hkC hkind hlay hi (hty f hfN) (hok v hv).1 (hok v hv).2) hcell hvm hlt rfl rfl hd fun H' e1 e2 e3 => ?_
      have hw := hk _ _ _ _ _ _ hf H' _ ls (hgo H' e1 e2 e3) (hS.put (k := fd.slot) e2 e3 (show base ≤ base + (q - 16) by omega)) hl
      rw [hn] at hw
      exact hw
    · exact hf.elim
  · exact hf.elim
theorem s_putF (X : ri_X p s m args c cc nL Ts own D ka sa base) {ci f ix N : Nat} {C : String} {T : u_T} (hc : ri_cl[ci]? = some (C, T, N)) (hin : ∀ w ∈ u_ws C T N, w ∈ Ts) (hfN : f < N) (ty0 : Nat → FieldType) (hty : ∀ k, k < N → parseFieldDescriptor (T k).2.2.1 = some (ty0 k)) (hnm : ∀ a, a < N → ∀ b, b < N → a ≠ b → (T a).2.1 ≠ (T b).2.1) (hfin : (T f).2.2.2 = true) {ok : Value → Bool} (hok : ∀ v, ok v = true → narrow (ty0 f) (ri_v sa base v) = ri_v sa base v ∧ fits (ty0 f) (ri_v sa base v) = true) (hlink : Cond.fieldLink own ix (T f).1 (T f).2.1 (T f).2.2.1 ∈ Ts) (hinit : meth.name = "<init>") (hdecl : (T f).1 = own) (hd : decode cc (pf i) = .ok (.putfield ix, 3)) (hn : pf n = pf i + 3) : ri_snd (ri_W p l e R s m args below meth c D ka sa base nL Q pf) i (i_put n ci f ok) := by
  intro k hk U V L st h hf
  unfold i_put at hf
  split at hf
  · rename_i v q r
    split at hf
    · rename_i c' fs hat
      replace hf := ri_bif hf; obtain ⟨hB, hf⟩ := hf
      replace hB := ri_and hB; obtain ⟨hv, hB⟩ := hB
      replace hB := ri_and hB; obtain ⟨hq, hB⟩ := hB
      obtain ⟨hb, hl9⟩ := ri_and hB
      have hcc : c' = ci := Nat.eq_of_beq_eq_true hb
      subst hcc
      rw [ri_at_hi hq] at hat
      intro H locs ls hH hS hl
      show W p l e R s m args below meth c H locs U V Q (F0 m (pf i) ls (ri_v sa base v :: .ref (ri_ad sa base q) :: r.map (ri_v sa base)))
      rw [ri_ad_hi hq]
      have hlen : f < fs.length := Nat.le_of_ble_eq_true hl9
      obtain ⟨cf, fi, kf, fd, cell, hi, hst, hcell, hcl, hvm, hlt, hgo⟩ := ri_put_core X hc hin hfN ty0 hty hnm (v := v) hat hlen hH
      obtain ⟨-, hfc, kC, hkC, hkind⟩ := X.2.2.2.2.2.1.1 c' _ hc
      have hlay := X.2.2.2.2.1 _ (hin _ (u_in_lay hfN))
      unfold u_lay at hlay
      rw [if_pos hfin] at hlay
      have hcf : m.cls = cf := by
        obtain ⟨_, _, c2, _, _, _, -, -, hf2, -, -, -, hown2, -⟩ := Cond.laysFinal_spec hlay
        have e1 : c2 = cf := by have := hi.symm.trans hf2; simp at this; exact this.1.symm
        rw [hdecl] at hown2
        rw [← e1]; exact Option.some.inj (X.2.2.2.1.symm.trans hown2)
      refine W.putFinK X.1 X.2.1 X.2.2.2.1 (X.2.2.2.2.1 _ hlink) hi hst hcf hinit (by rw [hcl]; exact u_fits hfc hkC hkind (Or.inr hlay) hi (hty f hfN) (hok v hv).1 (hok v hv).2) hcell hvm hlt rfl rfl hd fun H' e1 e2 e3 => ?_
      have hw := hk _ _ _ _ _ _ hf H' _ ls (hgo H' e1 e2 e3) (hS.put (k := fd.slot) e2 e3 (show base ≤ base + (q - 16) by omega)) hl
      rw [hn] at hw
      exact hw
    · exact hf.elim
  · exact hf.elim
theorem s_gets (X : ri_X p s m args c cc nL Ts own D ka sa base) {q ix : Nat} {t : String × String × String × Nat × (Nat → Int32)} (ht : ri_ST[q]? = some t) (hq : Nat.ble 16 q = false) (hlink : Cond.fieldLink own ix t.1 t.2.1 t.2.2.1 ∈ Ts) (hd : decode cc (pf i) = .ok (.getstatic ix, 3)) (hn : pf n = pf i + 3) : ri_snd (ri_W p l e R s m args below meth c D ka sa base nL Q pf) i (i_gets n q) := by
  intro k hk U V L st h hf H locs ls hH hS hl
  have hw := hk _ _ _ _ _ _ hf H locs ls hH hS hl
  rw [hn] at hw
  have hw : W p l e R s m args below meth c H locs U V Q (F0 m (pf i + 3) ls (.ref (ri_ad sa base q) :: st.map (ri_v sa base))) := hw
  rw [ri_ad_lo hq] at hw
  exact va_gets X.1 X.2.1 (X.2.2.2.2.2.2.2.2.1 q t ht).1 hS X.2.2.2.1 (X.2.2.2.2.1 _ hlink) (fun _ z => z) hd hw
theorem s_iald (X : ri_X p s m args c cc nL Ts own D ka sa base) (hkt : ri_kt[0]? = some .int) (hd : decode cc (pf i) = .ok (.iaload, 1)) (hn : pf n = pf i + 1) : ri_snd (ri_W p l e R s m args below meth c D ka sa base nL Q pf) i (i_ald n 0) := by
  intro k hk U V L st h hf
  unfold i_ald at hf
  split at hf
  · rename_i j q r
    split at hf
    · rename_i t N f hat
      obtain ⟨hin, hf⟩ := hf
      replace hf := ri_bif hf; obtain ⟨hb, hf⟩ := hf
      have hcc : t = 0 := Nat.eq_of_beq_eq_true hb
      subst hcc
      intro H locs ls hH hS hl
      have hw := hk _ _ _ _ _ _ hf H locs ls hH hS hl
      rw [hn] at hw
      cases hq : Nat.ble 16 q with
      | false =>
        rw [ri_at_lo hq] at hat
        obtain ⟨t0, ht0, e0⟩ := Option.map_eq_some_iff.mp hat
        cases e0
        show W p l e R s m args below meth c H locs U V Q (F0 m (pf i) ls (.int j :: .ref (ri_ad sa base q) :: r.map (ri_v sa base)))
        rw [ri_ad_lo hq]
        exact va_ti X.1 X.2.1 (X.2.2.2.2.2.2.2.2.1 q t0 ht0).2 hS hin rfl hd hw
      | true =>
        rw [ri_at_hi hq] at hat
        show W p l e R s m args below meth c H locs U V Q (F0 m (pf i) ls (.int j :: .ref (ri_ad sa base q) :: r.map (ri_v sa base)))
        rw [ri_ad_hi hq]
        exact va_iald X.1 X.2.1 X.2.2.2.2.2.1 hH.1 (q - 16) 0 (ri_w_get hat) (ri_tys_get hkt) hin hd hw
    · exact hf.elim
  · exact hf.elim
theorem s_zald (X : ri_X p s m args c cc nL Ts own D ka sa base) (hkt : ri_kt[1]? = some .boolean) (hd : decode cc (pf i) = .ok (.baload, 1)) (hn : pf n = pf i + 1) : ri_snd (ri_W p l e R s m args below meth c D ka sa base nL Q pf) i (i_ald n 1) := by
  intro k hk U V L st h hf
  unfold i_ald at hf
  split at hf
  · rename_i j q r
    split at hf
    · rename_i t N f hat
      obtain ⟨hin, hf⟩ := hf
      replace hf := ri_bif hf; obtain ⟨hb, hf⟩ := hf
      have hcc : t = 1 := Nat.eq_of_beq_eq_true hb
      subst hcc
      intro H locs ls hH hS hl
      have hw := hk _ _ _ _ _ _ hf H locs ls hH hS hl
      rw [hn] at hw
      cases hq : Nat.ble 16 q with
      | false =>
        rw [ri_at_lo hq] at hat
        obtain ⟨t0, ht0, e0⟩ := Option.map_eq_some_iff.mp hat
        cases e0
      | true =>
        rw [ri_at_hi hq] at hat
        show W p l e R s m args below meth c H locs U V Q (F0 m (pf i) ls (.int j :: .ref (ri_ad sa base q) :: r.map (ri_v sa base)))
        rw [ri_ad_hi hq]
        exact va_zald X.1 X.2.1 X.2.2.2.2.2.1 hH.1 (q - 16) 1 (ri_w_get hat) (ri_tys_get hkt) hin hd hw
    · exact hf.elim
  · exact hf.elim
theorem s_iast (X : ri_X p s m args c cc nL Ts own D ka sa base) (hkt : ri_kt[0]? = some .int) (hd : decode cc (pf i) = .ok (.iastore, 1)) (hn : pf n = pf i + 1) : ri_snd (ri_W p l e R s m args below meth c D ka sa base nL Q pf) i (i_ast n 0 (fun x => x)) := by
  intro k hk U V L st h hf
  unfold i_ast at hf
  split at hf
  · rename_i x j q r
    split at hf
    · rename_i t N f hat
      obtain ⟨hin, hf⟩ := hf
      replace hf := ri_bif hf; obtain ⟨hB, hf⟩ := hf
      obtain ⟨hq, hb⟩ := ri_and hB
      have hcc : t = 0 := Nat.eq_of_beq_eq_true hb
      subst hcc
      rw [ri_at_hi hq] at hat
      intro H locs ls hH hS hl
      show W p l e R s m args below meth c H locs U V Q (F0 m (pf i) ls (.int x :: .int j :: .ref (ri_ad sa base q) :: r.map (ri_v sa base)))
      rw [ri_ad_hi hq]
      have he := ri_w_get (sa := sa) (base := base) (ka := ka) hat
      refine W.iast X.1 X.2.1 (hH.1 (q - 16) _ he) ((X.2.2.2.2.2.1.2 0 _ (ri_tys_get hkt)).1 N (fun a => .int (f a))) (fun z => by cases z) (by show ¬ (j < 0 ∨ (arrV _ _ _).slots.size ≤ _); rw [arrV_size]; exact hin) rfl rfl hd fun H1 e1 z1 oq => ?_
      have hP1 : va_P D ri_cl ((ri_w sa base ka h).set (q - 16) (base + (q - 16), ri_c sa base ka (.inl (0, N, .inl (upd f j.toNatClampNeg ((fun x => x) x)))))) H1 := by
        refine hH.1.set ri_w_D he ?_ oq
        show H1[base + (q - 16)]? = some (vp_cell _ _)
        rw [e1]
        show some ((vp_cell (ka 0) (N, .inl f)).setSlot _ _) = some (vp_cell (ka 0) (N, .inl (upd f j.toNatClampNeg ((fun x => x) x))))
        rw [vp_cell_i, vp_cell_i, arrV_store]
        congr 2
        funext b
        by_cases hb2 : b = j.toNatClampNeg
        · subst hb2
          simp [updV, upd]
        · simp [updV, upd, hb2]
      rw [ri_w_set] at hP1
      have hw := hk _ _ _ _ _ _ hf H1 _ ls ⟨hP1, by rw [z1, List.length_set]; exact hH.2⟩ (hS.put (k := j.toNatClampNeg) z1 oq (show base ≤ base + (q - 16) by omega)) hl
      rw [hn] at hw
      exact hw
    · exact hf.elim
  · exact hf.elim
theorem s_zast (X : ri_X p s m args c cc nL Ts own D ka sa base) (hkt : ri_kt[1]? = some .boolean) (hd : decode cc (pf i) = .ok (.bastore, 1)) (hn : pf n = pf i + 1) : ri_snd (ri_W p l e R s m args below meth c D ka sa base nL Q pf) i (i_ast n 1 (fun x => vp_nar .boolean x)) := by
  intro k hk U V L st h hf
  unfold i_ast at hf
  split at hf
  · rename_i x j q r
    split at hf
    · rename_i t N f hat
      obtain ⟨hin, hf⟩ := hf
      replace hf := ri_bif hf; obtain ⟨hB, hf⟩ := hf
      obtain ⟨hq, hb⟩ := ri_and hB
      have hcc : t = 1 := Nat.eq_of_beq_eq_true hb
      subst hcc
      rw [ri_at_hi hq] at hat
      intro H locs ls hH hS hl
      show W p l e R s m args below meth c H locs U V Q (F0 m (pf i) ls (.int x :: .int j :: .ref (ri_ad sa base q) :: r.map (ri_v sa base)))
      rw [ri_ad_hi hq]
      have he := ri_w_get (sa := sa) (base := base) (ka := ka) hat
      refine W.zast X.1 X.2.1 (hH.1 (q - 16) _ he) ((X.2.2.2.2.2.1.2 1 _ (ri_tys_get hkt)).1 N (fun a => .int (f a))) (fun z => by cases z) (by show ¬ (j < 0 ∨ (arrV _ _ _).slots.size ≤ _); rw [arrV_size]; exact hin) rfl rfl hd fun H1 e1 z1 oq => ?_
      have hP1 : va_P D ri_cl ((ri_w sa base ka h).set (q - 16) (base + (q - 16), ri_c sa base ka (.inl (1, N, .inl (upd f j.toNatClampNeg ((fun x => vp_nar .boolean x) x)))))) H1 := by
        refine hH.1.set ri_w_D he ?_ oq
        show H1[base + (q - 16)]? = some (vp_cell _ _)
        rw [e1]
        show some ((vp_cell (ka 1) (N, .inl f)).setSlot _ _) = some (vp_cell (ka 1) (N, .inl (upd f j.toNatClampNeg ((fun x => vp_nar .boolean x) x))))
        rw [vp_cell_i, vp_cell_i, arrV_store]
        congr 2
        funext b
        by_cases hb2 : b = j.toNatClampNeg
        · subst hb2
          simp [updV, upd, vp_nar]
          try rfl
        · simp [updV, upd, hb2]
      rw [ri_w_set] at hP1
      have hw := hk _ _ _ _ _ _ hf H1 _ ls ⟨hP1, by rw [z1, List.length_set]; exact hH.2⟩ (hS.put (k := j.toNatClampNeg) z1 oq (show base ≤ base + (q - 16) by omega)) hl
      rw [hn] at hw
      exact hw
    · exact hf.elim
  · exact hf.elim
theorem s_alen (X : ri_X p s m args c cc nL Ts own D ka sa base) (hkt : ∀ t < ri_kt.length, ∃ ty, ri_kt[t]? = some ty) (hd : decode cc (pf i) = .ok (.arraylength, 1)) (hn : pf n = pf i + 1) : ri_snd (ri_W p l e R s m args below meth c D ka sa base nL Q pf) i (i_alen n) := by
  intro k hk U V L st h hf
  unfold i_alen at hf
  split at hf
  · rename_i q r
    split at hf
    · rename_i t N ff hat
      replace hf := ri_bif hf; obtain ⟨hb, hf⟩ := hf
      intro H locs ls hH hS hl
      have hw := hk _ _ _ _ _ _ hf H locs ls hH hS hl
      rw [hn] at hw
      cases hq : Nat.ble 16 q with
      | false =>
        rw [ri_at_lo hq] at hat
        obtain ⟨t0, ht0, e0⟩ := Option.map_eq_some_iff.mp hat
        cases e0
        show W p l e R s m args below meth c H locs U V Q (F0 m (pf i) ls (.ref (ri_ad sa base q) :: r.map (ri_v sa base)))
        rw [ri_ad_lo hq]
        exact va_tlen X.1 X.2.1 (X.2.2.2.2.2.2.2.2.1 q t0 ht0).2 hS rfl hd hw
      | true =>
        rw [ri_at_hi hq] at hat
        obtain ⟨ty, hty⟩ := hkt t (Nat.le_of_ble_eq_true hb)
        show W p l e R s m args below meth c H locs U V Q (F0 m (pf i) ls (.ref (ri_ad sa base q) :: r.map (ri_v sa base)))
        rw [ri_ad_hi hq]
        cases ff with
        | inl f => exact va_alen X.1 X.2.1 X.2.2.2.2.2.1 hH.1 (q - 16) t (ri_w_get hat) (ri_tys_get hty) rfl hd hw
        | inr g => exact va_alen X.1 X.2.1 X.2.2.2.2.2.1 hH.1 (q - 16) t (ri_w_get hat) (ri_tys_get hty) rfl hd hw
    · exact hf.elim
  · exact hf.elim
theorem s_aald (X : ri_X p s m args c cc nL Ts own D ka sa base) {kd : Nat} {ty : FieldType} (hkt : ri_kt[kd]? = some ty) (hr : ty.isReference = true) (hd : decode cc (pf i) = .ok (.aaload, 1)) (hn : pf n = pf i + 1) : ri_snd (ri_W p l e R s m args below meth c D ka sa base nL Q pf) i (i_aald n kd) := by
  intro k hk U V L st h hf
  unfold i_aald at hf
  split at hf
  · rename_i j q r
    split at hf
    · rename_i t N g hat
      obtain ⟨hin, hf⟩ := hf
      replace hf := ri_bif hf; obtain ⟨hB, hf⟩ := hf
      obtain ⟨hq, hb⟩ := ri_and hB
      have hcc : t = kd := Nat.eq_of_beq_eq_true hb
      subst hcc
      rw [ri_at_hi hq] at hat
      intro H locs ls hH hS hl
      have hw := hk _ _ _ _ _ _ hf H locs ls hH hS hl
      rw [hn] at hw
      have hw : W p l e R s m args below meth c H locs U V Q (F0 m (pf i + 1) ls (ri_v sa base (va_rf (g j.toNatClampNeg)) :: r.map (ri_v sa base))) := hw
      rw [ri_rf] at hw
      show W p l e R s m args below meth c H locs U V Q (F0 m (pf i) ls (.int j :: .ref (ri_ad sa base q) :: r.map (ri_v sa base)))
      rw [ri_ad_hi hq]
      have hlt : j.toNatClampNeg < N := Nat.not_le.mp fun z => hin (Or.inr z)
      exact W.aald (v := va_rf ((g j.toNatClampNeg).map (ri_ad sa base))) (ty := ty) X.1 X.2.1 (hH.1 (q - 16) _ (ri_w_get hat)) ((X.2.2.2.2.2.1.2 t _ (ri_tys_get hkt)).1 N (fun a => va_rf ((g a).map (ri_ad sa base)))) hr (fun z => by cases z) (by show ¬ (j < 0 ∨ (arrV _ _ _).slots.size ≤ _); rw [arrV_size]; exact hin) (by show (arrV _ _ _).slots[_]? = _; rw [arrV_read _ _ hlt]) rfl rfl hd hw
    · exact hf.elim
  · exact hf.elim
end RIT
end
section
/-! ends, calls, and a method's contract out of its list -/
def ri_Qc (D : va_G) (ka : Nat → ClassId) (sa : Nat → Nat) (base : Nat) (Po : ri_O) : Array Value → State → Outcome → State → Prop := fun _ st oc t =>
  (∃ (r : Option Value) (h' : List ri_C), Po r h' ∧ oc = .returned (r.map (ri_v sa base)) ∧ ri_H D ka sa base h' t.heap) ∧ va_F (fun q => base ≤ q) st t
def ri_Pc (D : va_G) (ka : Nat → ClassId) (sa : Nat → Nat) (base : Nat) (av : List Value) (h : List ri_C) : Array Value → State → Prop := fun v U =>
  v = (av.map (ri_v sa base)).toArray ∧ ri_env D ka sa base U ∧ ri_H D ka sa base h U.heap
/-- method y, called with these values in this heap, returns, and Po holds of its answer and of the heap behind it; it makes at most mc cells of ms slots -/
def ri_Ev (l : Launch) (y : MethodName) (ws : List Cond) (rm : Room) (mc ms : Nat) (av : List Value) (h : List ri_C) (Po : ri_O) : Prop :=
  ∀ (D : va_G) (ka : Nat → ClassId) (sa : Nat → Nat) (base : Nat), Met l y ws rm (ri_Pc D ka sa base av h) (ri_Qc D ka sa base Po) mc ms (fun q => base ≤ q)
def ri_isN (w : Cond) : Bool := match w with
  | .fieldLinkNest .. => true
  | .methodLinkNest .. => true
  | _ => false
theorem ri_nw_warm {w : Cond} {s U : State} (hw : ri_isN w = true) (hW : s.WarmedH U.vm) (h : va_Nw w s) : va_Nw w U := by
  cases w <;> first | (cases hw; done) | exact va_Nw.warmF hW h | exact va_Nw.warmM hW h
theorem ri_isN_tab {w : Cond} (hw : ri_isN w = true) : w.onTables = true := by
  cases w <;> first | (cases hw; done) | rfl
theorem ri_env_warm {D : va_G} {ka : Nat → ClassId} {sa : Nat → Nat} {base : Nat} {s U : State} (hNW : ∀ w ∈ ri_NW, ri_isN w = true) (h : ri_env D ka sa base s) (hW : s.WarmedH U.vm) {locs : List Loc} (hS : va_S (fun q => base ≤ q) s.heap U.heap locs) : ri_env D ka sa base U := by
  obtain ⟨h1, h2, h3, h4, h5⟩ := h
  refine ⟨h1.moved hW.alike, fun w hw => ri_nw_warm (hNW w hw) hW (h2 w hw), fun C hC => (h3 C hC).moved hW.alike, fun j t ht => ?_, Nat.le_trans h5 hS.1⟩
  obtain ⟨a, b⟩ := h4 j t ht
  exact ⟨(a.moved hW.alike).kept (fun q hq hA => hS.2.1 q hq hA), (b.moved hW.alike).kept (fun q hq hA => hS.2.1 q hq hA)⟩
theorem ri_blind {D : va_G} {ka : Nat → ClassId} {sa : Nat → Nat} {base : Nat} {av : List Value} {h : List ri_C} (hNW : ∀ w ∈ ri_NW, ri_isN w = true) : FrameBlind (ri_Pc D ka sa base av h) := by
  intro a U g mk q
  obtain ⟨q0, ⟨h1, h2, h3, h4, h5⟩, qH⟩ := q
  refine ⟨q0, ⟨h1.moved (u := U) (U := U.calling g mk a) (Vm.Alike.refl U.vm), fun w hw => va_Nw.same (ri_isN_tab (hNW w hw)) (u := U) (U := U.calling g mk a) rfl (h2 w hw), fun C hC => (h3 C hC).moved (u := U) (U := U.calling g mk a) (Vm.Alike.refl U.vm), fun j t ht => ?_, h5⟩, qH⟩
  obtain ⟨x, y⟩ := h4 j t ht
  exact ⟨x.moved (u := U) (U := U.calling g mk a) (Vm.Alike.refl U.vm), y.moved (u := U) (U := U.calling g mk a) (Vm.Alike.refl U.vm)⟩
section RIU
variable {p : Program} {l : Launch} {e : Env} {R : Room} {s : State} {m : MethodId} {args : Array Value} {below : List Frame} {meth : Method} {c : Code} {Q : State → Prop} {cc : ByteArray} {nL : Nat} {Ts : List Cond} {own : String} {D : va_G} {ka : Nat → ClassId} {sa : Nat → Nat} {base : Nat} {pf : Nat → Nat} {i n t : Nat}

theorem s_iret (X : ri_X p s m args c cc nL Ts own D ka sa base) {Po : ri_O} {mc ms : Nat} (hr : meth.sig.returnType = some .int) (hlocks : meth.locks = false) (hd : decode cc (pf i) = .ok (.ireturn, 1)) : ri_snd (ri_W p l e R s m args below meth c D ka sa base nL (MQ below (ri_Qc D ka sa base Po) args s mc ms (fun q => base ≤ q)) pf) i (i_ret Po mc ms) := by
  intro k hk U V L st h hf
  unfold i_ret at hf
  split at hf
  ·
    rename_i v
    replace hf := ri_bif hf; obtain ⟨hB, hf⟩ := hf
    obtain ⟨hU, hV⟩ := ri_and hB
    intro H locs ls hH hS hl
    have hf : Po _ h := hf
    refine W.widen (Nat.le_of_ble_eq_true hU) (Nat.le_of_ble_eq_true hV) ?_
    exact W.iret X.1 X.2.1 hr (fun t ht hW => ⟨⟨some (.int v), h, hf, rfl, by rw [ht]; exact hH⟩, hS.F ht⟩) hS.2.2 hd hlocks
  · exact hf.elim
theorem s_zret (X : ri_X p s m args c cc nL Ts own D ka sa base) {Po : ri_O} {mc ms : Nat} (hr : meth.sig.returnType = some .boolean) (hlocks : meth.locks = false) (hd : decode cc (pf i) = .ok (.ireturn, 1)) : ri_snd (ri_W p l e R s m args below meth c D ka sa base nL (MQ below (ri_Qc D ka sa base Po) args s mc ms (fun q => base ≤ q)) pf) i (i_zret Po mc ms) := by
  intro k hk U V L st h hf
  unfold i_zret at hf
  split at hf
  ·
    rename_i v
    replace hf := ri_bif hf; obtain ⟨hB, hf⟩ := hf
    obtain ⟨hU, hV⟩ := ri_and hB
    intro H locs ls hH hS hl
    obtain ⟨hz, hf⟩ := hf
    refine W.widen (Nat.le_of_ble_eq_true hU) (Nat.le_of_ble_eq_true hV) ?_
    exact W.zret X.1 X.2.1 hr hz (fun t ht hW => ⟨⟨some (.int v), h, hf, rfl, by rw [ht]; exact hH⟩, hS.F ht⟩) hS.2.2 hd hlocks
  · exact hf.elim
theorem s_vret (X : ri_X p s m args c cc nL Ts own D ka sa base) {Po : ri_O} {mc ms : Nat} (hr : meth.sig.returnType = none) (hlocks : meth.locks = false) (hd : decode cc (pf i) = .ok (.return_, 1)) : ri_snd (ri_W p l e R s m args below meth c D ka sa base nL (MQ below (ri_Qc D ka sa base Po) args s mc ms (fun q => base ≤ q)) pf) i (i_vret Po mc ms) := by
  intro k hk U V L st h hf
  unfold i_vret at hf
  split at hf
  ·
    replace hf := ri_bif hf; obtain ⟨hB, hf⟩ := hf
    obtain ⟨hU, hV⟩ := ri_and hB
    intro H locs ls hH hS hl
    have hf : Po _ h := hf
    refine W.widen (Nat.le_of_ble_eq_true hU) (Nat.le_of_ble_eq_true hV) ?_
    exact W.vret X.1 X.2.1 hr (fun t ht hW => ⟨⟨none, h, hf, rfl, by rw [ht]; exact hH⟩, hS.F ht⟩) hS.2.2 hd hlocks
  · exact hf.elim
theorem s_aret (X : ri_X p s m args c cc nL Ts own D ka sa base) {Po : ri_O} {mc ms : Nat} {rt : FieldType} (hr : meth.sig.returnType = some rt) (hrt : (∃ n, rt = .object n) ∨ ∃ t, rt = .array t) (hlocks : meth.locks = false) (hd : decode cc (pf i) = .ok (.areturn, 1)) : ri_snd (ri_W p l e R s m args below meth c D ka sa base nL (MQ below (ri_Qc D ka sa base Po) args s mc ms (fun q => base ≤ q)) pf) i (i_aret Po mc ms) := by
  intro k hk U V L st h hf
  unfold i_aret at hf
  split at hf
  · rename_i q
    replace hf := ri_bif hf; obtain ⟨hB, hf⟩ := hf
    obtain ⟨hU, hV⟩ := ri_and hB
    intro H locs ls hH hS hl
    have hf : Po _ h := hf
    refine W.widen (Nat.le_of_ble_eq_true hU) (Nat.le_of_ble_eq_true hV) ?_
    exact W.aret X.1 X.2.1 hr hrt (Or.inr ⟨_, rfl⟩) (fun t ht hW => ⟨⟨some (.ref q), h, hf, rfl, by rw [ht]; exact hH⟩, hS.F ht⟩) hS.2.2 hd hlocks
  · exact hf.elim
/-- behind a call -/
theorem ri_call_go {Po : ri_O} {mc ms pc U V : Nat} {ls : Array Slot} {st0 rest : List Value} {H : Heap} {locs : List Loc} {av : Array Value} {k : ri_K} {L : ri_L} (hk : ∀ j U V L st h, k j U V L st h → ri_W p l e R s m args below meth c D ka sa base nL Q pf j U V L st h) (hrun : va_Run p l e R s m args below meth c H locs U V mc ms (F0 m pc ls st0) (rest.map (ri_v sa base)) (ri_Qc D ka sa base Po av) (fun q => base ≤ q)) (hS : va_S (fun q => base ≤ q) s.heap H locs) (hl : ri_l sa base ls nL L) (hn : pf n = pc + 3) (hgo : ∀ r h', Po r h' → k n (U + mc) (V + ms) L (r.toList ++ rest) h') : W p l e R s m args below meth c H locs U V Q (F0 m pc ls st0) := by
  intro T hT X0
  obtain ⟨v, st₀, t, T', LL, h0, X', hL, e1, e2, ⟨⟨r, h', hPo, hv, hH'⟩, hz, hk'⟩, st⟩ := hrun T hT X0
  cases hv
  rw [h0] at hz hk'
  have hw := hk _ _ _ _ _ _ (hgo r h' hPo) T'.heap (locs ++ LL) ls (by rw [e1]; exact hH') ⟨Nat.le_trans hS.1 (by rw [e1]; exact hz), fun q h1 h2 => by rw [e1, hk' q (Nat.lt_of_lt_of_le h1 hS.1) h2]; exact hS.2.1 q h1 h2, fun q hq => by
      rcases List.mem_append.mp hq with h | h
      · exact hS.2.2 q h
      · exact hL q h⟩ hl
  rw [hn, List.map_append] at hw
  obtain ⟨t2, a1, b1⟩ := hw T' rfl X'
  refine ⟨t2, st t2 ?_, b1⟩
  cases r <;> exact a1
theorem ri_pre (hNW : ∀ w ∈ ri_NW, ri_isN w = true) (X : ri_X p s m args c cc nL Ts own D ka sa base) {av : List Value} {h : List ri_C} {H : Heap} {locs : List Loc} (hH : ri_H D ka sa base h H) (hS : va_S (fun q => base ≤ q) s.heap H locs) : PreS s H (ri_Pc D ka sa base av h) (av.map (ri_v sa base)) := by
  refine ⟨ri_blind hNW, fun U hU hW => ⟨rfl, ri_env_warm hNW X.2.2.2.2.2 hW (locs := locs) (by rw [hU]; exact hS), by rw [hU]; exact hH⟩⟩
theorem ri_room {st : List Value} {pc : Nat} {ls : Array Slot} {st0 : List Value} (h : (st.map Value.category).sum ≤ 8) : 2 * (F0 m pc ls st0).monitorRoom + ((st.map (ri_v sa base)).map fun v => v.category).sum ≤ 8 := by
  refine lv_room ?_
  rw [List.map_map]
  have e : ((fun v : Value => v.category) ∘ ri_v sa base) = Value.category := by funext v; exact ri_v_cat sa base v
  rw [e]
  exact h
theorem ri_split {na : Nat} {st : List Value} (f : Value → Value) : st.map f = (((st.take na).reverse).map f).reverse ++ (st.drop na).map f := by
  rw [← List.map_reverse, List.reverse_reverse, ← List.map_append, List.take_append_drop]

theorem s_callS (hNW : ∀ w ∈ ri_NW, ri_isN w = true) {rm rm2 : Room} {y : MethodName} {bytes : ByteArray} {maxL mc ms na ix : Nat} {ret : Option FieldType} {ws : List Cond} (X : ri_X p s m args c cc nL Ts own D ka sa base) (cw : CallB rm s args own ix y bytes maxL ret ws rm2 mc ms na ∧ (Cond.static y).before args s = true) (hd : decode cc (pf i) = .ok (.invokestatic ix, 3)) (hn : pf n = pf i + 3) : ri_snd (ri_W p l e rm s m args below meth c D ka sa base nL Q pf) i (i_call n na (ri_Ev l y ws rm2 mc ms) mc ms rm.cells rm.slots) := by
  intro k hk U V L st h hf
  unfold i_call at hf
  replace hf := ri_bif hf; obtain ⟨hB, hf⟩ := hf
  replace hB := ri_and hB; obtain ⟨h1, hB⟩ := hB
  replace hB := ri_and hB; obtain ⟨h2, hB⟩ := hB
  obtain ⟨h3, h4⟩ := ri_and hB
  obtain ⟨Po, hE, hgo⟩ := hf
  intro H locs ls hH hS hl
  rw [ri_split (na := na) (st := st) (ri_v sa base)]
  refine ri_call_go (n := n) (Po := Po) hk (va_runS (As := ((st.take na).reverse).map (ri_v sa base)) (rest := (st.drop na).map (ri_v sa base)) ⟨X.1, X.2.1, X.2.2.1, X.2.2.2.1, X.2.2.2.2.1⟩ (hE D ka sa base) cw (ri_pre hNW X hH hS) rfl (by have := Nat.le_of_ble_eq_true h3; simp; omega) hl.1 rfl (ri_room (Nat.le_of_ble_eq_true h4)) hd ⟨Nat.le_of_ble_eq_true h1, Nat.le_of_ble_eq_true h2⟩) hS hl hn hgo
theorem s_callSN (hNW : ∀ w ∈ ri_NW, ri_isN w = true) {rm rm2 : Room} {y : MethodName} {bytes : ByteArray} {maxL mc ms na ix : Nat} {ret : Option FieldType} {ws : List Cond} {host : String} (X : ri_X p s m args c cc nL Ts own D ka sa base) (cw : va_CN rm s args own ix y host bytes maxL ret ws rm2 mc ms na ∧ (Cond.static y).before args s = true ∧ True) (hd : decode cc (pf i) = .ok (.invokestatic ix, 3)) (hn : pf n = pf i + 3) : ri_snd (ri_W p l e rm s m args below meth c D ka sa base nL Q pf) i (i_call n na (ri_Ev l y ws rm2 mc ms) mc ms rm.cells rm.slots) := by
  intro k hk U V L st h hf
  unfold i_call at hf
  replace hf := ri_bif hf; obtain ⟨hB, hf⟩ := hf
  replace hB := ri_and hB; obtain ⟨h1, hB⟩ := hB
  replace hB := ri_and hB; obtain ⟨h2, hB⟩ := hB
  obtain ⟨h3, h4⟩ := ri_and hB
  obtain ⟨Po, hE, hgo⟩ := hf
  intro H locs ls hH hS hl
  rw [ri_split (na := na) (st := st) (ri_v sa base)]
  refine ri_call_go (n := n) (Po := Po) hk (va_runSN (As := ((st.take na).reverse).map (ri_v sa base)) (rest := (st.drop na).map (ri_v sa base)) ⟨X.1, X.2.1, X.2.2.1, X.2.2.2.1, X.2.2.2.2.1⟩ (hE D ka sa base) cw (ri_pre hNW X hH hS) rfl (by have := Nat.le_of_ble_eq_true h3; simp; omega) hl.1 rfl (ri_room (Nat.le_of_ble_eq_true h4)) hd ⟨Nat.le_of_ble_eq_true h1, Nat.le_of_ble_eq_true h2⟩) hS hl hn hgo
theorem s_callV (hNW : ∀ w ∈ ri_NW, ri_isN w = true) {rm rm2 : Room} {y : MethodName} {bytes : ByteArray} {maxL mc ms na ix ci N : Nat} {ret : Option FieldType} {ws : List Cond} {C : String} {Tt : u_T} (X : ri_X p s m args c cc nL Ts own D ka sa base) (hci : ri_cl[ci]? = some (C, Tt, N)) (cw : CallW rm s args own C ix y bytes maxL ret ws rm2 mc ms na) (hd : decode cc (pf i) = .ok (.invokevirtual ix, 3)) (hn : pf n = pf i + 3) : ri_snd (ri_W p l e rm s m args below meth c D ka sa base nL Q pf) i (i_callV n (na + 1) ci (ri_Ev l y ws rm2 mc ms) mc ms rm.cells rm.slots) := by
  intro k hk U V L st h hf
  unfold i_callV at hf
  split at hf
  · rename_i q as hspl
    split at hf
    · rename_i c' fs hat
      replace hf := ri_bif hf; obtain ⟨hB, hf⟩ := hf
      replace hB := ri_and hB; obtain ⟨hq, hB⟩ := hB
      replace hB := ri_and hB; obtain ⟨hb, hB⟩ := hB
      replace hB := ri_and hB; obtain ⟨h1, hB⟩ := hB
      replace hB := ri_and hB; obtain ⟨h2, hB⟩ := hB
      obtain ⟨h3, h4⟩ := ri_and hB
      have hcc : c' = ci := Nat.eq_of_beq_eq_true hb
      subst hcc
      obtain ⟨Po, hE, hgo⟩ := hf
      rw [ri_at_hi hq] at hat
      intro H locs ls hH hS hl
      have hstk := ri_split (na := na + 1) (st := st) (ri_v sa base)
      rw [hspl] at hstk
      have hlen : as.length = na := by
        have e1 := congrArg List.length hspl
        have e2 := Nat.le_of_ble_eq_true h3
        simp at e1
        omega
      have hstk : st.map (ri_v sa base) = (as.map (ri_v sa base)).reverse ++ .ref (base + (q - 16)) :: (st.drop (na + 1)).map (ri_v sa base) := by
        rw [hstk, ← ri_ad_hi (sa := sa) (base := base) hq]
        simp [ri_v]
      rw [hstk]
      have hargs : (Value.ref q :: as).map (ri_v sa base) = .ref (base + (q - 16)) :: as.map (ri_v sa base) := by
        rw [← ri_ad_hi (sa := sa) (base := base) hq]; rfl
      have hPre : PreS s H (ri_Pc D ka sa base (.ref q :: as) h) (.ref (base + (q - 16)) :: as.map (ri_v sa base)) := by
        have hp := ri_pre hNW X (av := .ref q :: as) hH hS
        rw [hargs] at hp
        exact hp
      have hrun := va_runV (b := base + (q - 16)) (As := as.map (ri_v sa base)) (rest := (st.drop (na + 1)).map (ri_v sa base)) (g := F0 m (pf i) ls ((as.map (ri_v sa base)).reverse ++ .ref (base + (q - 16)) :: (st.drop (na + 1)).map (ri_v sa base))) ⟨X.1, X.2.1, X.2.2.1, X.2.2.2.1, X.2.2.2.2.1⟩ (hE D ka sa base) cw (⟨ri_blind hNW, va_recv X.2.2.2.2.2.1 hH.1 (ci := c') (q0 := q - 16) hci (ri_w_get hat), hPre.2⟩ : PreV s H C (base + (q - 16)) (ri_Pc D ka sa base (.ref q :: as) h) (as.map (ri_v sa base))) rfl (by simpa using hlen) hl.1 rfl (ri_room (Nat.le_of_ble_eq_true h4)) hd ⟨Nat.le_of_ble_eq_true h1, Nat.le_of_ble_eq_true h2⟩ (p := p) (l := l) (e := e) (below := below) (meth := meth) (locs := locs) (cells := U) (slots := V) (H := H)
      exact ri_call_go (n := n) (Po := Po) hk hrun hS hl hn hgo
    · exact hf.elim
  · exact hf.elim
theorem s_callVN (hNW : ∀ w ∈ ri_NW, ri_isN w = true) {rm rm2 : Room} {y : MethodName} {bytes : ByteArray} {maxL mc ms na ix ci N : Nat} {ret : Option FieldType} {ws : List Cond} {C : String} {Tt : u_T} {host : String} (X : ri_X p s m args c cc nL Ts own D ka sa base) (hci : ri_cl[ci]? = some (C, Tt, N)) (cw : va_CN rm s args own ix y host bytes maxL ret ws rm2 mc ms na ∧ (Cond.instanceMethod y).before args s = true ∧ (Cond.selects C y y).before args s = true) (hd : decode cc (pf i) = .ok (.invokevirtual ix, 3)) (hn : pf n = pf i + 3) : ri_snd (ri_W p l e rm s m args below meth c D ka sa base nL Q pf) i (i_callV n (na + 1) ci (ri_Ev l y ws rm2 mc ms) mc ms rm.cells rm.slots) := by
  intro k hk U V L st h hf
  unfold i_callV at hf
  split at hf
  · rename_i q as hspl
    split at hf
    · rename_i c' fs hat
      replace hf := ri_bif hf; obtain ⟨hB, hf⟩ := hf
      replace hB := ri_and hB; obtain ⟨hq, hB⟩ := hB
      replace hB := ri_and hB; obtain ⟨hb, hB⟩ := hB
      replace hB := ri_and hB; obtain ⟨h1, hB⟩ := hB
      replace hB := ri_and hB; obtain ⟨h2, hB⟩ := hB
      obtain ⟨h3, h4⟩ := ri_and hB
      have hcc : c' = ci := Nat.eq_of_beq_eq_true hb
      subst hcc
      obtain ⟨Po, hE, hgo⟩ := hf
      rw [ri_at_hi hq] at hat
      intro H locs ls hH hS hl
      have hstk := ri_split (na := na + 1) (st := st) (ri_v sa base)
      rw [hspl] at hstk
      have hlen : as.length = na := by
        have e1 := congrArg List.length hspl
        have e2 := Nat.le_of_ble_eq_true h3
        simp at e1
        omega
      have hstk : st.map (ri_v sa base) = (as.map (ri_v sa base)).reverse ++ .ref (base + (q - 16)) :: (st.drop (na + 1)).map (ri_v sa base) := by
        rw [hstk, ← ri_ad_hi (sa := sa) (base := base) hq]
        simp [ri_v]
      rw [hstk]
      have hargs : (Value.ref q :: as).map (ri_v sa base) = .ref (base + (q - 16)) :: as.map (ri_v sa base) := by
        rw [← ri_ad_hi (sa := sa) (base := base) hq]; rfl
      have hPre : PreS s H (ri_Pc D ka sa base (.ref q :: as) h) (.ref (base + (q - 16)) :: as.map (ri_v sa base)) := by
        have hp := ri_pre hNW X (av := .ref q :: as) hH hS
        rw [hargs] at hp
        exact hp
      have hrun := va_runVN (b := base + (q - 16)) (As := as.map (ri_v sa base)) (rest := (st.drop (na + 1)).map (ri_v sa base)) (g := F0 m (pf i) ls ((as.map (ri_v sa base)).reverse ++ .ref (base + (q - 16)) :: (st.drop (na + 1)).map (ri_v sa base))) ⟨X.1, X.2.1, X.2.2.1, X.2.2.2.1, X.2.2.2.2.1⟩ (hE D ka sa base) cw (⟨ri_blind hNW, va_recv X.2.2.2.2.2.1 hH.1 (ci := c') (q0 := q - 16) hci (ri_w_get hat), hPre.2⟩ : PreV s H C (base + (q - 16)) (ri_Pc D ka sa base (.ref q :: as) h) (as.map (ri_v sa base))) rfl (by simpa using hlen) hl.1 rfl (ri_room (Nat.le_of_ble_eq_true h4)) hd ⟨Nat.le_of_ble_eq_true h1, Nat.le_of_ble_eq_true h2⟩ (p := p) (l := l) (e := e) (below := below) (meth := meth) (locs := locs) (cells := U) (slots := V) (H := H)
      exact ri_call_go (n := n) (Po := Po) hk hrun hS hl hn hgo
    · exact hf.elim
  · exact hf.elim
theorem s_callI (hNW : ∀ w ∈ ri_NW, ri_isN w = true) {rm rm2 : Room} {y : MethodName} {bytes : ByteArray} {maxL mc ms na ix ci N : Nat} {ws : List Cond} {C : String} {Tt : u_T} (X : ri_X p s m args c cc nL Ts own D ka sa base) (hci : ri_cl[ci]? = some (C, Tt, N)) (cw : CallB rm s args own ix y bytes maxL none ws rm2 mc ms na ∧ y.name = "<init>" ∧ (Cond.instanceMethod y).before args s = true) (hd : decode cc (pf i) = .ok (.invokespecial ix, 3)) (hn : pf n = pf i + 3) : ri_snd (ri_W p l e rm s m args below meth c D ka sa base nL Q pf) i (i_callV n (na + 1) ci (ri_Ev l y ws rm2 mc ms) mc ms rm.cells rm.slots) := by
  intro k hk U V L st h hf
  unfold i_callV at hf
  split at hf
  · rename_i q as hspl
    split at hf
    · rename_i c' fs hat
      replace hf := ri_bif hf; obtain ⟨hB, hf⟩ := hf
      replace hB := ri_and hB; obtain ⟨hq, hB⟩ := hB
      replace hB := ri_and hB; obtain ⟨hb, hB⟩ := hB
      replace hB := ri_and hB; obtain ⟨h1, hB⟩ := hB
      replace hB := ri_and hB; obtain ⟨h2, hB⟩ := hB
      obtain ⟨h3, h4⟩ := ri_and hB
      have hcc : c' = ci := Nat.eq_of_beq_eq_true hb
      subst hcc
      obtain ⟨Po, hE, hgo⟩ := hf
      rw [ri_at_hi hq] at hat
      intro H locs ls hH hS hl
      have hstk := ri_split (na := na + 1) (st := st) (ri_v sa base)
      rw [hspl] at hstk
      have hlen : as.length = na := by
        have e1 := congrArg List.length hspl
        have e2 := Nat.le_of_ble_eq_true h3
        simp at e1
        omega
      have hstk : st.map (ri_v sa base) = (as.map (ri_v sa base)).reverse ++ .ref (base + (q - 16)) :: (st.drop (na + 1)).map (ri_v sa base) := by
        rw [hstk, ← ri_ad_hi (sa := sa) (base := base) hq]
        simp [ri_v]
      rw [hstk]
      have hargs : (Value.ref q :: as).map (ri_v sa base) = .ref (base + (q - 16)) :: as.map (ri_v sa base) := by
        rw [← ri_ad_hi (sa := sa) (base := base) hq]; rfl
      have hPre : PreS s H (ri_Pc D ka sa base (.ref q :: as) h) (.ref (base + (q - 16)) :: as.map (ri_v sa base)) := by
        have hp := ri_pre hNW X (av := .ref q :: as) hH hS
        rw [hargs] at hp
        exact hp
      have hrun := va_runI (b := base + (q - 16)) (As := as.map (ri_v sa base)) (rest := (st.drop (na + 1)).map (ri_v sa base)) (g := F0 m (pf i) ls ((as.map (ri_v sa base)).reverse ++ .ref (base + (q - 16)) :: (st.drop (na + 1)).map (ri_v sa base))) ⟨X.1, X.2.1, X.2.2.1, X.2.2.2.1, X.2.2.2.2.1⟩ (hE D ka sa base) cw hPre rfl (by simpa using hlen) hl.1 rfl (ri_room (Nat.le_of_ble_eq_true h4)) hd ⟨Nat.le_of_ble_eq_true h1, Nat.le_of_ble_eq_true h2⟩ (p := p) (l := l) (e := e) (below := below) (meth := meth) (locs := locs) (cells := U) (slots := V) (H := H)
      exact ri_call_go (n := n) (Po := Po) hk hrun hS hl hn hgo
    · exact hf.elim
  · exact hf.elim
theorem s_callIN (hNW : ∀ w ∈ ri_NW, ri_isN w = true) {rm rm2 : Room} {y : MethodName} {bytes : ByteArray} {maxL mc ms na ix ci N : Nat} {ws : List Cond} {C : String} {Tt : u_T} {host : String} (X : ri_X p s m args c cc nL Ts own D ka sa base) (hci : ri_cl[ci]? = some (C, Tt, N)) (cw : va_CN rm s args own ix y host bytes maxL none ws rm2 mc ms na ∧ y.name = "<init>" ∧ (Cond.instanceMethod y).before args s = true) (hd : decode cc (pf i) = .ok (.invokespecial ix, 3)) (hn : pf n = pf i + 3) : ri_snd (ri_W p l e rm s m args below meth c D ka sa base nL Q pf) i (i_callV n (na + 1) ci (ri_Ev l y ws rm2 mc ms) mc ms rm.cells rm.slots) := by
  intro k hk U V L st h hf
  unfold i_callV at hf
  split at hf
  · rename_i q as hspl
    split at hf
    · rename_i c' fs hat
      replace hf := ri_bif hf; obtain ⟨hB, hf⟩ := hf
      replace hB := ri_and hB; obtain ⟨hq, hB⟩ := hB
      replace hB := ri_and hB; obtain ⟨hb, hB⟩ := hB
      replace hB := ri_and hB; obtain ⟨h1, hB⟩ := hB
      replace hB := ri_and hB; obtain ⟨h2, hB⟩ := hB
      obtain ⟨h3, h4⟩ := ri_and hB
      have hcc : c' = ci := Nat.eq_of_beq_eq_true hb
      subst hcc
      obtain ⟨Po, hE, hgo⟩ := hf
      rw [ri_at_hi hq] at hat
      intro H locs ls hH hS hl
      have hstk := ri_split (na := na + 1) (st := st) (ri_v sa base)
      rw [hspl] at hstk
      have hlen : as.length = na := by
        have e1 := congrArg List.length hspl
        have e2 := Nat.le_of_ble_eq_true h3
        simp at e1
        omega
      have hstk : st.map (ri_v sa base) = (as.map (ri_v sa base)).reverse ++ .ref (base + (q - 16)) :: (st.drop (na + 1)).map (ri_v sa base) := by
        rw [hstk, ← ri_ad_hi (sa := sa) (base := base) hq]
        simp [ri_v]
      rw [hstk]
      have hargs : (Value.ref q :: as).map (ri_v sa base) = .ref (base + (q - 16)) :: as.map (ri_v sa base) := by
        rw [← ri_ad_hi (sa := sa) (base := base) hq]; rfl
      have hPre : PreS s H (ri_Pc D ka sa base (.ref q :: as) h) (.ref (base + (q - 16)) :: as.map (ri_v sa base)) := by
        have hp := ri_pre hNW X (av := .ref q :: as) hH hS
        rw [hargs] at hp
        exact hp
      have hrun := va_runIN (b := base + (q - 16)) (As := as.map (ri_v sa base)) (rest := (st.drop (na + 1)).map (ri_v sa base)) (g := F0 m (pf i) ls ((as.map (ri_v sa base)).reverse ++ .ref (base + (q - 16)) :: (st.drop (na + 1)).map (ri_v sa base))) ⟨X.1, X.2.1, X.2.2.1, X.2.2.2.1, X.2.2.2.2.1⟩ (hE D ka sa base) cw hPre rfl (by simpa using hlen) hl.1 rfl (ri_room (Nat.le_of_ble_eq_true h4)) hd ⟨Nat.le_of_ble_eq_true h1, Nat.le_of_ble_eq_true h2⟩ (p := p) (l := l) (e := e) (below := below) (meth := meth) (locs := locs) (cells := U) (slots := V) (H := H)
      exact ri_call_go (n := n) (Po := Po) hk hrun hS hl hn hgo
    · exact hf.elim
  · exact hf.elim
end RIU
theorem ri_args_in {f : Value → Value} (hf : ∀ v, (f v).category = v.category) : ∀ (av : List Value) (o j : Nat) (v : Value), av.all ri_cat1 = true → av[j]? = some v → (o + j, f v) ∈ lv_args o (av.map f)
  | [], _, _, _, _, h => by simp at h
  | a :: r, o, j, v, hc, h => by
    have hc2 := ri_and (a := ri_cat1 a) (b := r.all ri_cat1) hc
    have ha : ¬ (f a).category = 2 := by rw [hf, ri_cat1_ok hc2.1]; decide
    show _ ∈ (o, f a) :: lv_args (if (f a).category = 2 then o + 2 else o + 1) (r.map f)
    rw [if_neg ha]
    cases j with
    | zero => simp at h; subst h; exact List.mem_cons_self
    | succ j =>
      have h2 : r[j]? = some v := by simpa using h
      have := ri_args_in hf r (o + 1) j v hc2.2 h2
      rw [show o + (j + 1) = o + 1 + j by omega]
      exact List.mem_cons_of_mem _ this
theorem ri_sl_len {f : Value → Value} (hf : ∀ v, (f v).category = v.category) : ∀ (av : List Value), av.all ri_cat1 = true → (lg_sl (av.map f)).length = av.length
  | [], _ => rfl
  | a :: r, hc => by
    have hc2 := ri_and (a := ri_cat1 a) (b := r.all ri_cat1) hc
    have ha : ¬ (f a).category = 2 := by rw [hf, ri_cat1_ok hc2.1]; decide
    have ih := ri_sl_len hf r hc2.2
    simp only [lg_sl, List.map_cons, List.flatMap_cons, if_neg ha] at ih ⊢
    simp [ih]
theorem ri_ev {l : Launch} {y : MethodName} {ws ws' : List Cond} {rm : Room} {mc ms maxL : Nat} {cc : ByteArray} {ret : Option FieldType} {av : List Value} {h : List ri_C} {Po : ri_O} (tab : List ri_S) {pf : Nat → Nat} (hy : plainName y.cls = true) (hw : ws = Cond.code y cc maxL ret :: ws') (hav : av.all ri_cat1 = true) (hlen : av.length ≤ maxL) (h0 : pf 0 = 0)
    (hclo : ∀ (p : Program) (e : Env) (s : State) (m : MethodId) (args : Array Value) (below : List Frame) (meth : Method) (c : Code) (D : va_G) (ka : Nat → ClassId) (sa : Nat → Nat) (base : Nat), ri_X p s m args c cc maxL ws y.cls D ka sa base → meth.sig.returnType = ret → meth.locks = false → meth.name = y.name → ri_clo (ri_W p l e rm s m args below meth c D ka sa base maxL (MQ below (ri_Qc D ka sa base Po) args s mc ms (fun q => base ≤ q)) pf) tab)
    (hgo : ∀ J : ri_K, ri_clo J tab → J 0 0 0 (av.map some ++ List.replicate (maxL - av.length) none) [] h) : ri_Ev l y ws rm mc ms av h Po := by
  intro D ka sa base
  refine Met.ofW (cc := cc) (maxL := maxL) (ret := ret) hy hw ?_
  intro p e s m args below meth c s₁ B hml hv
  obtain ⟨rfl, henv, hH⟩ := hv
  have hts := atoms_spec (ws := ws) B.pre
  have X : ri_X p s m _ c cc maxL ws y.cls D ka sa base := ⟨B.exec, B.bytes, hml, findClass_of_methodNamed B.named, hts, henv⟩
  have hJ := hclo p e s m _ below meth c D ka sa base X B.returns B.notSynchronized (name_of_methodNamed B.named B.method).1
  have hl := lv_entry (av.map (ri_v sa base)) (n := maxL) (by rw [ri_sl_len (ri_v_cat sa base) av hav]; exact hlen)
  rw [lg_entry_eq]
  have hll : ri_l sa base (lg_sl (av.map (ri_v sa base)) ++ List.replicate (maxL - (lg_sl (av.map (ri_v sa base))).length) Slot.unset).toArray maxL (av.map some ++ List.replicate (maxL - av.length) none) := by
    refine ⟨hl.1, hl.2.1, fun j v hj => ?_⟩
    by_cases hjl : j < av.length
    · rw [List.getElem?_append_left (by simpa using hjl), List.getElem?_map] at hj
      cases hav2 : av[j]? with
      | none => rw [hav2] at hj; cases hj
      | some w =>
        rw [hav2] at hj
        cases hj
        have h1 := ri_args_in (ri_v_cat sa base) av 0 j v hav hav2
        rw [Nat.zero_add] at h1
        exact ⟨hl.2.2 _ h1, ri_cat1_ok (List.all_eq_true.mp hav v (List.mem_of_getElem? hav2))⟩
    · rw [List.getElem?_append_right (by simpa using Nat.le_of_not_lt hjl)] at hj
      obtain ⟨_, h2⟩ := List.getElem?_eq_some_iff.mp hj
      simp at h2
  have hg : ri_W p l e rm s m _ below meth c D ka sa base maxL _ pf 0 0 0 _ [] h := hgo _ hJ
  have hg := hg s.heap [] _ hH va_S.rf hll
  rw [h0] at hg
  exact hg
end
section
/-! new cells, Object's constructor, Math, switches -/
def i_nw (n ci N : Nat) (fs : List Value) (RC RS : Nat) : ri_S := fun k U V L st h =>
  bif Nat.ble (U + 1) RC && Nat.ble (V + N) RS then k n (U + 1) (V + N) L (.ref (16 + h.length) :: st) (h ++ [.inr (ci, fs)]) else False
def i_nwa (n kd : Nat) (RC RS : Nat) : ri_S := fun k U V L st h => match st with
  | .int x :: r => ¬ x < 0 ∧ bif Nat.ble (x.toNatClampNeg * 4) 536870912 && (Nat.ble (U + 1) RC && Nat.ble (V + x.toNatClampNeg) RS) then k n (U + 1) (V + x.toNatClampNeg) L (.ref (16 + h.length) :: r) (h ++ [.inl (kd, x.toNatClampNeg, .inl (fun _ => 0))]) else False
  | _ => False
def i_nwq (n kd : Nat) (RC RS : Nat) : ri_S := fun k U V L st h => match st with
  | .int x :: r => ¬ x < 0 ∧ bif Nat.ble (x.toNatClampNeg * 4) 536870912 && (Nat.ble (U + 1) RC && Nat.ble (V + x.toNatClampNeg) RS) then k n (U + 1) (V + x.toNatClampNeg) L (.ref (16 + h.length) :: r) (h ++ [.inl (kd, x.toNatClampNeg, .inr (fun _ => none))]) else False
  | _ => False
def i_aast (n kd ci : Nat) : ri_S := fun k U V L st h => match st with
  | .ref v :: .int j :: .ref q :: r => match ri_at h q with
    | some (.inl (t, N, .inr g)) => vp_in j N ∧ (match ri_at h v with
      | some (.inr (c', _)) => bif Nat.ble 16 q && (Nat.ble 16 v && (Nat.beq t kd && Nat.beq c' ci)) then k n U V L r (h.set (q - 16) (.inl (t, N, .inr (va_up g j.toNatClampNeg (some v))))) else False
      | _ => False)
    | _ => False
  | _ => False
def i_oi (n RF RL : Nat) : ri_S := fun k U V L st h => match st with
  | .ref _ :: r => bif Nat.ble 1 RF && Nat.ble ((r.map Value.category).sum + 12) RL then k n U V L r h else False
  | _ => False
def i_m2 (n : Nat) (f : Int32 → Int32 → Int32) (RF RL RC RS : Nat) : ri_S := fun k U V L st h => match st with
  | .int y :: .int x :: r => bif Nat.ble 1 RF && (Nat.ble ((r.map Value.category).sum + 13) RL && (Nat.ble U RC && Nat.ble V RS)) then k n U V L (.int (f x y) :: r) h else False
  | _ => False
def i_m1 (n : Nat) (f : Int32 → Int32) (RF RL RC RS : Nat) : ri_S := fun k U V L st h => match st with
  | .int x :: r => bif Nat.ble 1 RF && (Nat.ble ((r.map Value.category).sum + 13) RL && (Nat.ble U RC && Nat.ble V RS)) then k n U V L (.int (f x) :: r) h else False
  | _ => False
theorem ri_ad_new (sa : Nat → Nat) (base n : Nat) : ri_ad sa base (16 + n) = base + n := by
  rw [ri_ad_hi (Nat.ble_eq_true_of_le (Nat.le_add_right 16 n)), Nat.add_sub_cancel_left]
theorem ri_cats {sa : Nat → Nat} {base : Nat} (r : List Value) : ((r.map (ri_v sa base)).map fun v => v.category).sum = (r.map Value.category).sum := by
  rw [List.map_map]
  have e : ((fun v : Value => v.category) ∘ ri_v sa base) = Value.category := by funext v; exact ri_v_cat sa base v
  rw [e]
section RIV
variable {p : Program} {l : Launch} {e : Env} {R : Room} {s : State} {m : MethodId} {args : Array Value} {below : List Frame} {meth : Method} {c : Code} {Q : State → Prop} {cc : ByteArray} {nL : Nat} {Ts : List Cond} {own : String} {D : va_G} {ka : Nat → ClassId} {sa : Nat → Nat} {base : Nat} {pf : Nat → Nat} {i n t : Nat}
/-- one cell more, at the heap's end -/
theorem ri_grow {h : List ri_C} {H H1 : Heap} {ec : ri_C} (hH : ri_H D ka sa base h H) (hat : va_at D ri_cl (base + h.length, ri_c sa base ka ec) H1) (z1 : H1.size = base + h.length + 1) (o1 : ∀ q, q < base + h.length → H1[q]? = H[q]?) : ri_H D ka sa base (h ++ [ec]) H1 := by
  refine ⟨?_, by rw [z1, List.length_append]; rfl⟩
  rw [ri_w_app]
  refine (hH.1.kept (fun k x hx => o1 x.1 (by have := (hH.1 k x hx).lt; rw [hH.2] at this; exact this))).app (fun k x hx => ?_)
  have hz : k < 1 := (List.getElem?_eq_some_iff.mp hx).1
  rw [show k = 0 by omega] at hx
  cases hx
  exact hat
theorem ri_S_grow {H H1 : Heap} {locs : List Loc} {z : Nat} (hS : va_S (fun q => base ≤ q) s.heap H locs) (hz : H.size = z) (z1 : H1.size = z + 1) (o1 : ∀ q, q < z → H1[q]? = H[q]?) : va_S (fun q => base ≤ q) s.heap H1 locs :=
  ⟨Nat.le_trans hS.1 (by omega), fun q h1 h2 => (o1 q (by have := hS.1; omega)).trans (hS.2.1 q h1 h2), hS.2.2⟩

theorem s_new (X : ri_X p s m args c cc nL Ts own D ka sa base) {ci N ix : Nat} {C : String} {T : u_T} {fs : List Value} (hc : ri_cl[ci]? = some (C, T, N)) (hin : ∀ w ∈ u_ws C T N, w ∈ Ts) (ty : Nat → FieldType) (hty : ∀ k, k < N → parseFieldDescriptor (T k).2.2.1 = some (ty k)) (hfs : ∀ j, j < N → defaultValue (ty j) = vp_V fs j) (hfix : fs.map (ri_v sa base) = fs) (hcl : Cond.classLink own ix C ∈ Ts) (hinst : Cond.instantiable C N ∈ Ts) (hini : Cond.initialized C ∈ Ts) (hd : decode cc (pf i) = .ok (.new ix, 3)) (hn : pf n = pf i + 3) : ri_snd (ri_W p l e R s m args below meth c D ka sa base nL Q pf) i (i_nw n ci N fs R.cells R.slots) := by
  intro k hk U V L st h hf
  unfold i_nw at hf
  replace hf := ri_bif hf; obtain ⟨hB, hf⟩ := hf
  obtain ⟨h1, h2⟩ := ri_and hB
  intro H locs ls hH hS hl
  have hKn := X.2.2.2.2.2.1.1 ci _ hc
  refine W.newcK X.1 X.2.1 X.2.2.2.1 (X.2.2.2.2.1 _ hcl) (X.2.2.2.2.1 _ hinst) (X.2.2.2.2.1 _ hini) rfl hd (Nat.le_of_ble_eq_true h1) (Nat.le_of_ble_eq_true h2) hKn.2.1 hH.2 fun H1 kC hkC e1 z1 o1 => ?_
  have hat : va_at D ri_cl (base + h.length, ri_c sa base ka (.inr (ci, fs))) H1 := by
    show ∃ r : vw_C, ri_cl[ci]? = some r ∧ t_OB (base + h.length) (D.1 ci) r.2.2 (D.2 ci) H1 (vp_V (fs.map (ri_v sa base)))
    rw [hfix]
    exact ⟨_, hc, (u_born ty X.2.2.2.2.1 hin hKn hkC e1 hty).to hfs⟩
  have hw := hk _ _ _ _ _ _ hf H1 locs ls (ri_grow hH hat z1 o1) (ri_S_grow hS hH.2 z1 o1) hl
  rw [hn] at hw
  have hw : W p l e R s m args below meth c H1 locs (U + 1) (V + N) Q (F0 m (pf i + 3) ls (.ref (ri_ad sa base (16 + h.length)) :: st.map (ri_v sa base))) := hw
  rw [ri_ad_new] at hw
  exact hw
theorem s_newi (X : ri_X p s m args c cc nL Ts own D ka sa base) (hkt : ri_kt[0]? = some .int) (harr : Cond.arrayClass .int ∈ Ts) (hd : decode cc (pf i) = .ok (.newarray .int, 2)) (hn : pf n = pf i + 2) : ri_snd (ri_W p l e R s m args below meth c D ka sa base nL Q pf) i (i_nwa n 0 R.cells R.slots) := by
  intro k hk U V L st h hf
  unfold i_nwa at hf
  split at hf
  · rename_i x r
    obtain ⟨hx, hf⟩ := hf
    replace hf := ri_bif hf; obtain ⟨hB, hf⟩ := hf
    replace hB := ri_and hB; obtain ⟨h0, hB⟩ := hB
    obtain ⟨h1, h2⟩ := ri_and hB
    intro H locs ls hH hS hl
    have h0' := Nat.le_of_ble_eq_true h0
    refine va_newaK (atype := .int) X.1 X.2.1 (X.2.2.2.2.1 _ harr) rfl hd rfl hx rfl (Nat.le_trans (Nat.mul_le_mul_left _ (by decide)) h0') (Nat.le_of_ble_eq_true h1) (Nat.le_of_ble_eq_true h2) hH.2 fun H1 cA e1 z1 o1 hAr hNm => ?_
    have hcA : cA = ka 0 := Option.some.inj (hNm.symm.trans (X.2.2.2.2.2.1.2 0 _ (ri_tys_get hkt)).2)
    subst hcA
    have hat : va_at D ri_cl (base + h.length, ri_c sa base ka (.inl (0, x.toNatClampNeg, .inl (fun _ => 0)))) H1 := by
      show H1[base + h.length]? = some (vp_cell (ka 0) (x.toNatClampNeg, .inl (fun _ => 0)))
      rw [vp_cell_i]
      exact e1
    have hw := hk _ _ _ _ _ _ hf H1 locs ls (ri_grow hH hat z1 o1) (ri_S_grow hS hH.2 z1 o1) hl
    rw [hn] at hw
    have hw : W p l e R s m args below meth c H1 locs (U + 1) (V + x.toNatClampNeg) Q (F0 m (pf i + 2) ls (.ref (ri_ad sa base (16 + h.length)) :: r.map (ri_v sa base))) := hw
    rw [ri_ad_new] at hw
    exact hw
  · exact hf.elim
theorem s_newz (X : ri_X p s m args c cc nL Ts own D ka sa base) (hkt : ri_kt[1]? = some .boolean) (harr : Cond.arrayClass .boolean ∈ Ts) (hd : decode cc (pf i) = .ok (.newarray .boolean, 2)) (hn : pf n = pf i + 2) : ri_snd (ri_W p l e R s m args below meth c D ka sa base nL Q pf) i (i_nwa n 1 R.cells R.slots) := by
  intro k hk U V L st h hf
  unfold i_nwa at hf
  split at hf
  · rename_i x r
    obtain ⟨hx, hf⟩ := hf
    replace hf := ri_bif hf; obtain ⟨hB, hf⟩ := hf
    replace hB := ri_and hB; obtain ⟨h0, hB⟩ := hB
    obtain ⟨h1, h2⟩ := ri_and hB
    intro H locs ls hH hS hl
    have h0' := Nat.le_of_ble_eq_true h0
    refine va_newaK (atype := .boolean) X.1 X.2.1 (X.2.2.2.2.1 _ harr) rfl hd rfl hx rfl (Nat.le_trans (Nat.mul_le_mul_left _ (by decide)) h0') (Nat.le_of_ble_eq_true h1) (Nat.le_of_ble_eq_true h2) hH.2 fun H1 cA e1 z1 o1 hAr hNm => ?_
    have hcA : cA = ka 1 := Option.some.inj (hNm.symm.trans (X.2.2.2.2.2.1.2 1 _ (ri_tys_get hkt)).2)
    subst hcA
    have hat : va_at D ri_cl (base + h.length, ri_c sa base ka (.inl (1, x.toNatClampNeg, .inl (fun _ => 0)))) H1 := by
      show H1[base + h.length]? = some (vp_cell (ka 1) (x.toNatClampNeg, .inl (fun _ => 0)))
      rw [vp_cell_i]
      exact e1
    have hw := hk _ _ _ _ _ _ hf H1 locs ls (ri_grow hH hat z1 o1) (ri_S_grow hS hH.2 z1 o1) hl
    rw [hn] at hw
    have hw : W p l e R s m args below meth c H1 locs (U + 1) (V + x.toNatClampNeg) Q (F0 m (pf i + 2) ls (.ref (ri_ad sa base (16 + h.length)) :: r.map (ri_v sa base))) := hw
    rw [ri_ad_new] at hw
    exact hw
  · exact hf.elim
theorem s_anew (X : ri_X p s m args c cc nL Ts own D ka sa base) {kd ix : Nat} {C : String} (hkt : ri_kt[kd]? = some (.object C)) (hao : C ∈ ri_AO) (hcl : Cond.classLink own ix C ∈ Ts) (hd : decode cc (pf i) = .ok (.anewarray ix, 3)) (hn : pf n = pf i + 3) : ri_snd (ri_W p l e R s m args below meth c D ka sa base nL Q pf) i (i_nwq n kd R.cells R.slots) := by
  intro k hk U V L st h hf
  unfold i_nwq at hf
  split at hf
  · rename_i x r
    obtain ⟨hx, hf⟩ := hf
    replace hf := ri_bif hf; obtain ⟨hB, hf⟩ := hf
    replace hB := ri_and hB; obtain ⟨h0, hB⟩ := hB
    obtain ⟨h1, h2⟩ := ri_and hB
    intro H locs ls hH hS hl
    refine W.anew X.1 X.2.1 X.2.2.2.1 (X.2.2.2.2.1 _ hcl) (va_AO.use (X.2.2.2.2.2.2.2.1 C hao)) rfl hd rfl hx (Nat.le_of_ble_eq_true h0) (Nat.le_of_ble_eq_true h1) (Nat.le_of_ble_eq_true h2) fun cA kA comp f1 f2 f3 f4 => ?_
    generalize hH1 : H.push ({ cls := cA, slots := Array.replicate x.toNatClampNeg .null, vm := .none } : Cell) = H1
    have z1 : H1.size = base + h.length + 1 := by rw [← hH1, Array.size_push, hH.2]
    have e1 : H1[base + h.length]? = some (arrV cA x.toNatClampNeg (fun _ => .null)) := by rw [← hH1, ← hH.2, Array.getElem?_push_size, ← arrV_new]
    have o1 : ∀ q : Nat, q < base + h.length → H1[q]? = H[q]? := fun q hq => by rw [← hH1, Array.getElem?_push, if_neg (by rw [hH.2]; exact Nat.ne_of_lt hq)]
    obtain ⟨kA2, comp2, g1, g2, g3, g4⟩ := (X.2.2.2.2.2.1.2 kd _ (ri_tys_get hkt)).2
    have hcA : cA = ka kd := Option.some.inj (f1.symm.trans g4)
    subst hcA
    have hat : va_at D ri_cl (base + h.length, ri_c sa base ka (.inl (kd, x.toNatClampNeg, .inr (fun _ => none)))) H1 := by
      show H1[base + h.length]? = some (vp_cell (ka kd) (x.toNatClampNeg, .inr (.inr (.inr (.inr (fun _ => Option.map (ri_ad sa base) none))))))
      rw [vp_cell_q]
      exact e1
    have hw := hk _ _ _ _ _ _ hf H1 locs ls (ri_grow hH hat z1 o1) (ri_S_grow hS hH.2 z1 o1) hl
    rw [hn] at hw
    have hw : W p l e R s m args below meth c H1 locs (U + 1) (V + x.toNatClampNeg) Q (F0 m (pf i + 3) ls (.ref (ri_ad sa base (16 + h.length)) :: r.map (ri_v sa base))) := hw
    rw [ri_ad_new, ← hH.2] at hw
    exact hw
  · exact hf.elim
theorem s_aast (X : ri_X p s m args c cc nL Ts own D ka sa base) {kd ci N0 : Nat} {C : String} {T : u_T} (hkt : ri_kt[kd]? = some (.object C)) (hc : ri_cl[ci]? = some (C, T, N0)) (hd : decode cc (pf i) = .ok (.aastore, 1)) (hn : pf n = pf i + 1) : ri_snd (ri_W p l e R s m args below meth c D ka sa base nL Q pf) i (i_aast n kd ci) := by
  intro k hk U V L st h hf
  unfold i_aast at hf
  split at hf
  · rename_i v j q r
    split at hf
    · rename_i t N g hat
      obtain ⟨hin, hf⟩ := hf
      split at hf
      · rename_i c' fs hav
        replace hf := ri_bif hf; obtain ⟨hB, hf⟩ := hf
        replace hB := ri_and hB; obtain ⟨hq, hB⟩ := hB
        replace hB := ri_and hB; obtain ⟨hv, hB⟩ := hB
        obtain ⟨ht, hb⟩ := ri_and hB
        have e1 : t = kd := Nat.eq_of_beq_eq_true ht
        have e2 : c' = ci := Nat.eq_of_beq_eq_true hb
        subst e1; subst e2
        rw [ri_at_hi hq] at hat
        rw [ri_at_hi hv] at hav
        intro H locs ls hH hS hl
        show W p l e R s m args below meth c H locs U V Q (F0 m (pf i) ls (.ref (ri_ad sa base v) :: .int j :: .ref (ri_ad sa base q) :: r.map (ri_v sa base)))
        have had := ri_ad_hi (sa := sa) (base := base) hv
        rw [ri_ad_hi hq, had]
        have he := ri_w_get (sa := sa) (base := base) (ka := ka) hat
        have hlt : j.toNatClampNeg < N := Nat.not_le.mp fun z => hin (Or.inr z)
        obtain ⟨r', hr', cellV, g1, g2, g3, -⟩ := hH.1 (v - 16) _ (ri_w_get (sa := sa) (base := base) (ka := ka) hav)
        have hcls := (X.2.2.2.2.2.1.1 c' _ hc).2
        obtain ⟨kA, comp, k1, k2, k3, -⟩ := (X.2.2.2.2.2.1.2 t _ (ri_tys_get hkt)).2
        have hcomp : comp = D.1 c' := Option.some.inj (k3.symm.trans hcls.1)
        subst hcomp
        obtain ⟨kC, hkC, -⟩ := hcls.2
        refine W.aast X.1 X.2.1 (hH.1 (q - 16) _ he) (fun z hz => by cases hz) (fun hz => by cases hz) k1 k2 rfl hkC ⟨fun z => hin (Or.inl z), by show _ < (arrV _ _ _).slots.size; rw [arrV_size]; exact hlt⟩ g1 (fun z hz => by rw [g3] at hz; cases hz) (by rw [g2]; exact hkC) (by rw [g2]; exact va_assign hcls) rfl rfl hd fun H1 e1 z1 oq => ?_
        have hP1 : va_P D ri_cl ((ri_w sa base ka h).set (q - 16) (base + (q - 16), ri_c sa base ka (.inl (t, N, .inr (va_up g j.toNatClampNeg (some v)))))) H1 := by
          refine hH.1.set ri_w_D he ?_ oq
          show H1[base + (q - 16)]? = some (vp_cell (ka t) (N, .inr (.inr (.inr (.inr (fun a => (va_up g j.toNatClampNeg (some v) a).map (ri_ad sa base)))))))
          rw [e1]
          show some ((vp_cell (ka t) (N, .inr (.inr (.inr (.inr (fun a => (g a).map (ri_ad sa base))))))).setSlot _ _) = _
          rw [vp_cell_q, vp_cell_q, arrV_store]
          congr 2
          funext b
          by_cases hb2 : b = j.toNatClampNeg
          · subst hb2
            simp [updV, va_up, va_rf, had]
          · simp [updV, va_up, hb2]
        rw [ri_w_set] at hP1
        have hw := hk _ _ _ _ _ _ hf H1 _ ls ⟨hP1, by rw [z1, List.length_set]; exact hH.2⟩ (hS.put (k := j.toNatClampNeg) z1 oq (show base ≤ base + (q - 16) by omega)) hl
        rw [hn] at hw
        exact hw
      · exact hf.elim
    · exact hf.elim
  · exact hf.elim
theorem s_oi (X : ri_X p s m args c cc nL Ts own D ka sa base) {ix : Nat} (hlink : Cond.methodLink own ix Lib.objectInit ∈ Ts) (hinst : Cond.instanceMethod Lib.objectInit ∈ Ts) (hcode : Cond.code Lib.objectInit ⟨#[0xb1]⟩ 1 none ∈ Ts) (hd : decode cc (pf i) = .ok (.invokespecial ix, 3)) (hn : pf n = pf i + 3) : ri_snd (ri_W p l e R s m args below meth c D ka sa base nL Q pf) i (i_oi n R.frames R.locals) := by
  intro k hk U V L st h hf
  unfold i_oi at hf
  split at hf
  · rename_i q r
    replace hf := ri_bif hf; obtain ⟨hB, hf⟩ := hf
    obtain ⟨h1, h2⟩ := ri_and hB
    intro H locs ls hH hS hl
    have hw := hk _ _ _ _ _ _ hf H locs ls hH hS hl
    rw [hn] at hw
    have h2' := Nat.le_of_ble_eq_true h2
    exact W.objInit X.1 X.2.1 X.2.2.2.1 (X.2.2.2.2.1 _ hlink) (X.2.2.2.2.1 _ hinst) (X.2.2.2.2.1 _ hcode) rfl (by rw [X.2.2.1]; exact hl.1) (rest := r.map (ri_v sa base)) rfl hd (Nat.le_of_ble_eq_true h1) (by rw [ri_cats]; show 2 * 0 + _ + 12 ≤ _; omega) hw
  · exact hf.elim
theorem s_max (X : ri_X p s m args c cc nL Ts own D ka sa base) {ix : Nat} (hlink : Cond.methodLink own ix Lib.Math.max.name ∈ Ts) (hstat : Cond.static Lib.Math.max.name ∈ Ts) (hini : Cond.initialized "java/lang/Math" ∈ Ts) (hcode : Cond.code Lib.Math.max.name Lib.Math.max.code 2 (some .int) ∈ Ts) (hd : decode cc (pf i) = .ok (.invokestatic ix, 3)) (hn : pf n = pf i + 3) : ri_snd (ri_W p l e R s m args below meth c D ka sa base nL Q pf) i (i_m2 n (fun x y => if x < y then y else x) R.frames R.locals R.cells R.slots) := by
  intro k hk U V L st h hf
  unfold i_m2 at hf
  split at hf
  · replace hf := ri_bif hf; obtain ⟨hB, hf⟩ := hf
    replace hB := ri_and hB; obtain ⟨h1, hB⟩ := hB
    replace hB := ri_and hB; obtain ⟨h2, hB⟩ := hB
    obtain ⟨h3, h4⟩ := ri_and hB
    intro H locs ls hH hS hl
    have hw := hk _ _ _ _ _ _ hf H locs ls hH hS hl
    rw [hn] at hw
    exact va_mmax X.1 X.2.1 (by rw [X.2.2.1]; exact hl.1.symm) X.2.2.2.1 (X.2.2.2.2.1 _ hlink) (X.2.2.2.2.1 _ hstat) (X.2.2.2.2.1 _ hini) (X.2.2.2.2.1 _ hcode) (Nat.le_of_ble_eq_true h1) (by rw [ri_cats]; exact Nat.le_of_ble_eq_true h2) (Nat.le_of_ble_eq_true h3) (Nat.le_of_ble_eq_true h4) hd hw
  · exact hf.elim
theorem s_min (X : ri_X p s m args c cc nL Ts own D ka sa base) {ix : Nat} (hlink : Cond.methodLink own ix Lib.Math.min.name ∈ Ts) (hstat : Cond.static Lib.Math.min.name ∈ Ts) (hini : Cond.initialized "java/lang/Math" ∈ Ts) (hcode : Cond.code Lib.Math.min.name Lib.Math.min.code 2 (some .int) ∈ Ts) (hd : decode cc (pf i) = .ok (.invokestatic ix, 3)) (hn : pf n = pf i + 3) : ri_snd (ri_W p l e R s m args below meth c D ka sa base nL Q pf) i (i_m2 n (fun x y => if y < x then y else x) R.frames R.locals R.cells R.slots) := by
  intro k hk U V L st h hf
  unfold i_m2 at hf
  split at hf
  · replace hf := ri_bif hf; obtain ⟨hB, hf⟩ := hf
    replace hB := ri_and hB; obtain ⟨h1, hB⟩ := hB
    replace hB := ri_and hB; obtain ⟨h2, hB⟩ := hB
    obtain ⟨h3, h4⟩ := ri_and hB
    intro H locs ls hH hS hl
    have hw := hk _ _ _ _ _ _ hf H locs ls hH hS hl
    rw [hn] at hw
    exact va_mmin X.1 X.2.1 (by rw [X.2.2.1]; exact hl.1.symm) X.2.2.2.1 (X.2.2.2.2.1 _ hlink) (X.2.2.2.2.1 _ hstat) (X.2.2.2.2.1 _ hini) (X.2.2.2.2.1 _ hcode) (Nat.le_of_ble_eq_true h1) (by rw [ri_cats]; exact Nat.le_of_ble_eq_true h2) (Nat.le_of_ble_eq_true h3) (Nat.le_of_ble_eq_true h4) hd hw
  · exact hf.elim
theorem s_abs (X : ri_X p s m args c cc nL Ts own D ka sa base) {ix : Nat} (hlink : Cond.methodLink own ix Lib.Math.abs.name ∈ Ts) (hstat : Cond.static Lib.Math.abs.name ∈ Ts) (hini : Cond.initialized "java/lang/Math" ∈ Ts) (hcode : Cond.code Lib.Math.abs.name Lib.Math.abs.code 1 (some .int) ∈ Ts) (hd : decode cc (pf i) = .ok (.invokestatic ix, 3)) (hn : pf n = pf i + 3) : ri_snd (ri_W p l e R s m args below meth c D ka sa base nL Q pf) i (i_m1 n (fun x => if 0 ≤ x then x else 0 - x) R.frames R.locals R.cells R.slots) := by
  intro k hk U V L st h hf
  unfold i_m1 at hf
  split at hf
  · replace hf := ri_bif hf; obtain ⟨hB, hf⟩ := hf
    replace hB := ri_and hB; obtain ⟨h1, hB⟩ := hB
    replace hB := ri_and hB; obtain ⟨h2, hB⟩ := hB
    obtain ⟨h3, h4⟩ := ri_and hB
    intro H locs ls hH hS hl
    have hw := hk _ _ _ _ _ _ hf H locs ls hH hS hl
    rw [hn] at hw
    exact va_mabs X.1 X.2.1 (by rw [X.2.2.1]; exact hl.1.symm) X.2.2.2.1 (X.2.2.2.2.1 _ hlink) (X.2.2.2.2.1 _ hstat) (X.2.2.2.2.1 _ hini) (X.2.2.2.2.1 _ hcode) (Nat.le_of_ble_eq_true h1) (by rw [ri_cats]; exact Nat.le_of_ble_eq_true h2) (Nat.le_of_ble_eq_true h3) (Nat.le_of_ble_eq_true h4) hd hw
  · exact hf.elim
def ri_tg (x : Int32) : List (Int32 × Nat) → Nat → Nat
  | [], d => d
  | (v, t) :: r, d => if x = v then t else ri_tg x r d
theorem ri_sw_tg {P : Nat → Prop} {x : Int32} : ∀ (cs : List (Int32 × Nat)) (d : Nat), ri_sw P x cs d → P (ri_tg x cs d)
  | [], _, h => h
  | (v, t) :: r, d, h => by
    unfold ri_tg
    by_cases hx : x = v
    · rw [if_pos hx]; exact h.1 hx
    · rw [if_neg hx]; exact ri_sw_tg r d (h.2 hx)
theorem ri_tg_out {x : Int32} : ∀ (cs : List (Int32 × Nat)) (d : Nat), (∀ q ∈ cs, ¬ x = q.1) → ri_tg x cs d = d
  | [], _, _ => rfl
  | (v, t) :: r, d, h => by
    unfold ri_tg
    rw [if_neg (h (v, t) List.mem_cons_self)]
    exact ri_tg_out r d (fun q hq => h q (List.mem_cons_of_mem _ hq))
/-- a tableswitch: each of its places leads where the cases say -/
theorem s_tsw (X : ri_X p s m args c cc nL Ts own D ka sa base) {dflt lo hi : Int} {offs : Array Int} {len d : Nat} {cs : List (Int32 × Nat)} (hd : decode cc (pf i) = .ok (.tableswitch dflt lo hi offs, len)) (hdf : (pf i : Int) + dflt = (pf d : Int)) (hout : ∀ q ∈ cs, lo ≤ q.1.toInt ∧ q.1.toInt ≤ hi) (hcs : ∀ j : Nat, j < offs.size → ∃ off, offs[j]? = some off ∧ (pf i : Int) + off = (pf (ri_tg (Int32.ofInt (lo + j)) cs d) : Int)) (hsz : hi - lo < offs.size) : ri_snd (ri_W p l e R s m args below meth c D ka sa base nL Q pf) i (i_sw cs d) := by
  intro k hk U V L st h hf
  unfold i_sw at hf
  split at hf
  · rename_i x r
    have hf2 := ri_sw_tg cs d hf
    intro H locs ls hH hS hl
    have hw := hk _ _ _ _ _ _ hf2 H locs ls hH hS hl
    by_cases hx : x.toInt < lo ∨ hi < x.toInt
    · have e : ri_tg x cs d = d := ri_tg_out cs d (fun q hq z => by
        have := hout q hq
        rw [← z] at this
        omega)
      rw [e] at hw
      exact lv_tableOut X.1 X.2.1 hd hx hdf hw
    · obtain ⟨off, ho, ht⟩ := hcs (x.toInt - lo).toNat (by omega)
      have e : Int32.ofInt (lo + ((x.toInt - lo).toNat : Int)) = x := by
        rw [Int.toNat_of_nonneg (by omega), show lo + (x.toInt - lo) = x.toInt by omega]
        exact Int32.ofInt_toInt x
      rw [e] at ht
      exact lv_tableIn X.1 X.2.1 hd (fun z => hx (Or.inl z)) (fun z => hx (Or.inr z)) ho ht hw
  · exact hf.elim
theorem ri_lk {x : Int32} {pi : Nat} {dflt : Int} {d : Nat} (hdf : (pi : Int) + dflt = (pf d : Int)) : ∀ (ps : List (Int × Int)) (cs : List (Int32 × Nat)), ps.length = cs.length → (∀ (j : Nat) (a : Int × Int) (q : Int32 × Nat), ps[j]? = some a → cs[j]? = some q → q.1.toInt = a.1 ∧ (pi : Int) + a.2 = (pf q.2 : Int)) → (pi : Int) + Op.lookupswitch.offset ps dflt x.toInt = (pf (ri_tg x cs d) : Int)
  | [], [], _, _ => by simpa [Op.lookupswitch.offset, ri_tg] using hdf
  | a :: ps, (v, t) :: cs, hl, h => by
    have h0 := h 0 a (v, t) rfl rfl
    obtain ⟨a1, a2⟩ := a
    rw [Op.lookupswitch.offset_cons]
    unfold ri_tg
    by_cases hx : x = v
    · rw [if_pos hx, if_pos (by rw [hx]; exact h0.1.symm)]
      exact h0.2
    · rw [if_neg hx, if_neg (by intro z; exact hx (Int32.toInt_inj.mp (z.symm.trans h0.1.symm)))]
      exact ri_lk hdf ps cs (by simpa using hl) (fun j a q ha hq => h (j + 1) a q (by simpa using ha) (by simpa using hq))
theorem s_lsw (X : ri_X p s m args c cc nL Ts own D ka sa base) {dflt : Int} {ps : Array (Int × Int)} {len d : Nat} {cs : List (Int32 × Nat)} (hd : decode cc (pf i) = .ok (.lookupswitch dflt ps, len)) (hp : (ps.toList.zip (ps.toList.drop 1)).all (fun (a, next) => a.1 < next.1) = true) (hdf : (pf i : Int) + dflt = (pf d : Int)) (hlen : ps.toList.length = cs.length) (hcs : ∀ (j : Nat) (a : Int × Int) (q : Int32 × Nat), ps.toList[j]? = some a → cs[j]? = some q → q.1.toInt = a.1 ∧ (pf i : Int) + a.2 = (pf q.2 : Int)) : ri_snd (ri_W p l e R s m args below meth c D ka sa base nL Q pf) i (i_sw cs d) := by
  intro k hk U V L st h hf
  unfold i_sw at hf
  split at hf
  · rename_i x r
    have hf2 := ri_sw_tg cs d hf
    intro H locs ls hH hS hl
    have hw := hk _ _ _ _ _ _ hf2 H locs ls hH hS hl
    exact lv_lookup X.1 X.2.1 hd hp rfl (ri_lk hdf ps.toList cs hlen hcs) hw
  · exact hf.elim
end RIV
end
