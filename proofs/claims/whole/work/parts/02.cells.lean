def zzR0 : String := "PackedForest$Chart"
def zzT0 : u_T := fun k => match k with
  | 0 => ("PackedForest$Chart", "now", "LPackedForest$Setting;", true)
  | 1 => ("PackedForest$Chart", "filtered", "Z", true)
  | 2 => ("PackedForest$Chart", "columns", "I", false)
  | 3 => ("PackedForest$Chart", "fitting", "[I", true)
  | 4 => ("PackedForest$Chart", "rooted", "[I", true)
  | 5 => ("PackedForest$Chart", "ends", "[I", true)
  | _ => ("PackedForest$Chart", "row", "[I", true)
def zzt0 : Nat → FieldType := fun k => match k with
  | 0 => .object "PackedForest$Setting"
  | 1 => .boolean
  | 2 => .int
  | 3 => .array .int
  | 4 => .array .int
  | 5 => .array .int
  | _ => .array .int
theorem zzt0_ok : ∀ k, k < 7 → parseFieldDescriptor (zzT0 k).2.2.1 = some (zzt0 k) := by decide +kernel
theorem zzn0 : ∀ a, a < 7 → ∀ b, b < 7 → a ≠ b → (zzT0 a).2.1 ≠ (zzT0 b).2.1 := by decide +kernel
def zzR1 : String := "PackedForest$Counts"
def zzT1 : u_T := fun k => match k with
  | 0 => ("PackedForest$Counts", "now", "LPackedForest$Setting;", true)
  | 1 => ("PackedForest$Counts", "chart", "LPackedForest$Chart;", true)
  | 2 => ("PackedForest$Counts", "columns", "I", false)
  | 3 => ("PackedForest$Counts", "trees", "[J", true)
  | _ => ("PackedForest$Counts", "row", "[J", true)
def zzt1 : Nat → FieldType := fun k => match k with
  | 0 => .object "PackedForest$Setting"
  | 1 => .object "PackedForest$Chart"
  | 2 => .int
  | 3 => .array .long
  | _ => .array .long
theorem zzt1_ok : ∀ k, k < 5 → parseFieldDescriptor (zzT1 k).2.2.1 = some (zzt1 k) := by decide +kernel
theorem zzn1 : ∀ a, a < 5 → ∀ b, b < 5 → a ≠ b → (zzT1 a).2.1 ≠ (zzT1 b).2.1 := by decide +kernel
def zzR2 : String := "PackedForest$Facts"
def zzT2 : u_T := fun k => match k with
  | 0 => ("PackedForest$Facts", "now", "LPackedForest$Setting;", true)
  | 1 => ("PackedForest$Facts", "stand", "Z", false)
  | 2 => ("PackedForest$Facts", "empty", "I", false)
  | 3 => ("PackedForest$Facts", "ends", "I", false)
  | 4 => ("PackedForest$Facts", "reached", "I", false)
  | 5 => ("PackedForest$Facts", "loops", "I", false)
  | 6 => ("PackedForest$Facts", "recurs", "I", false)
  | 7 => ("PackedForest$Facts", "first", "[I", true)
  | 8 => ("PackedForest$Facts", "follow", "[I", true)
  | 9 => ("PackedForest$Facts", "shortRow", "[I", true)
  | _ => ("PackedForest$Facts", "steps", "[I", true)
def zzt2 : Nat → FieldType := fun k => match k with
  | 0 => .object "PackedForest$Setting"
  | 1 => .boolean
  | 2 => .int
  | 3 => .int
  | 4 => .int
  | 5 => .int
  | 6 => .int
  | 7 => .array .int
  | 8 => .array .int
  | 9 => .array .int
  | _ => .array .int
theorem zzt2_ok : ∀ k, k < 11 → parseFieldDescriptor (zzT2 k).2.2.1 = some (zzt2 k) := by decide +kernel
theorem zzn2 : ∀ a, a < 11 → ∀ b, b < 11 → a ≠ b → (zzT2 a).2.1 ≠ (zzT2 b).2.1 := by decide +kernel
def zzR3 : String := "PackedForest$Forest"
def zzT3 : u_T := fun k => match k with
  | 0 => ("PackedForest$Forest", "now", "LPackedForest$Setting;", true)
  | 1 => ("PackedForest$Forest", "chart", "LPackedForest$Chart;", true)
  | 2 => ("PackedForest$Forest", "stand", "Z", false)
  | 3 => ("PackedForest$Forest", "tallied", "Z", false)
  | 4 => ("PackedForest$Forest", "pieces", "[I", true)
  | 5 => ("PackedForest$Forest", "nodes", "I", false)
  | 6 => ("PackedForest$Forest", "ambiguous", "I", false)
  | 7 => ("PackedForest$Forest", "narrow", "I", false)
  | 8 => ("PackedForest$Forest", "reachable", "[I", true)
  | _ => ("PackedForest$Forest", "hopeful", "[I", true)
def zzt3 : Nat → FieldType := fun k => match k with
  | 0 => .object "PackedForest$Setting"
  | 1 => .object "PackedForest$Chart"
  | 2 => .boolean
  | 3 => .boolean
  | 4 => .array .int
  | 5 => .int
  | 6 => .int
  | 7 => .int
  | 8 => .array .int
  | _ => .array .int
theorem zzt3_ok : ∀ k, k < 10 → parseFieldDescriptor (zzT3 k).2.2.1 = some (zzt3 k) := by decide +kernel
theorem zzn3 : ∀ a, a < 10 → ∀ b, b < 10 → a ≠ b → (zzT3 a).2.1 ≠ (zzT3 b).2.1 := by decide +kernel
def zzR4 : String := "PackedForest$Grammar"
def zzT4 : u_T := fun k => match k with
  | 0 => ("PackedForest$Grammar", "rules", "I", false)
  | 1 => ("PackedForest$Grammar", "lefts", "I", false)
  | 2 => ("PackedForest$Grammar", "left", "[I", true)
  | 3 => ("PackedForest$Grammar", "size", "[I", true)
  | 4 => ("PackedForest$Grammar", "rank", "[I", true)
  | 5 => ("PackedForest$Grammar", "side", "[I", true)
  | 6 => ("PackedForest$Grammar", "symbols", "[I", true)
  | _ => ("PackedForest$Grammar", "rulesOf", "[I", true)
def zzt4 : Nat → FieldType := fun k => match k with
  | 0 => .int
  | 1 => .int
  | 2 => .array .int
  | 3 => .array .int
  | 4 => .array .int
  | 5 => .array .int
  | 6 => .array .int
  | _ => .array .int
theorem zzt4_ok : ∀ k, k < 8 → parseFieldDescriptor (zzT4 k).2.2.1 = some (zzt4 k) := by decide +kernel
theorem zzn4 : ∀ a, a < 8 → ∀ b, b < 8 → a ≠ b → (zzT4 a).2.1 ≠ (zzT4 b).2.1 := by decide +kernel
def zzR5 : String := "PackedForest$Levels"
def zzT5 : u_T := fun k => match k with
  | 0 => ("PackedForest$Levels", "now", "LPackedForest$Setting;", true)
  | 1 => ("PackedForest$Levels", "states", "LPackedForest$States;", true)
  | 2 => ("PackedForest$Levels", "plain", "LPackedForest$Chart;", true)
  | 3 => ("PackedForest$Levels", "stand", "Z", false)
  | 4 => ("PackedForest$Levels", "lives", "[Z", true)
  | 5 => ("PackedForest$Levels", "linkCounts", "[I", true)
  | 6 => ("PackedForest$Levels", "waiting", "[I", true)
  | _ => ("PackedForest$Levels", "waitingCount", "I", false)
def zzt5 : Nat → FieldType := fun k => match k with
  | 0 => .object "PackedForest$Setting"
  | 1 => .object "PackedForest$States"
  | 2 => .object "PackedForest$Chart"
  | 3 => .boolean
  | 4 => .array .boolean
  | 5 => .array .int
  | 6 => .array .int
  | _ => .int
theorem zzt5_ok : ∀ k, k < 8 → parseFieldDescriptor (zzT5 k).2.2.1 = some (zzt5 k) := by decide +kernel
theorem zzn5 : ∀ a, a < 8 → ∀ b, b < 8 → a ≠ b → (zzT5 a).2.1 ≠ (zzT5 b).2.1 := by decide +kernel
def zzR6 : String := "PackedForest$Mender"
def zzT6 : u_T := fun k => match k with
  | 0 => ("PackedForest$Mender", "now", "LPackedForest$Setting;", true)
  | 1 => ("PackedForest$Mender", "columns", "I", false)
  | 2 => ("PackedForest$Mender", "costs", "[I", true)
  | _ => ("PackedForest$Mender", "row", "[I", true)
def zzt6 : Nat → FieldType := fun k => match k with
  | 0 => .object "PackedForest$Setting"
  | 1 => .int
  | 2 => .array .int
  | _ => .array .int
theorem zzt6_ok : ∀ k, k < 4 → parseFieldDescriptor (zzT6 k).2.2.1 = some (zzt6 k) := by decide +kernel
theorem zzn6 : ∀ a, a < 4 → ∀ b, b < 4 → a ≠ b → (zzT6 a).2.1 ≠ (zzT6 b).2.1 := by decide +kernel
def zzR7 : String := "PackedForest$Setting"
def zzT7 : u_T := fun k => match k with
  | 0 => ("PackedForest$Setting", "grammar", "LPackedForest$Grammar;", true)
  | 1 => ("PackedForest$Setting", "letters", "[I", true)
  | 2 => ("PackedForest$Setting", "length", "I", false)
  | 3 => ("PackedForest$Setting", "struck", "I", false)
  | 4 => ("PackedForest$Setting", "banned", "[I", true)
  | 5 => ("PackedForest$Setting", "bans", "I", false)
  | 6 => ("PackedForest$Setting", "filters", "I", false)
  | 7 => ("PackedForest$Setting", "acts", "[I", true)
  | 8 => ("PackedForest$Setting", "actCount", "I", false)
  | 9 => ("PackedForest$Setting", "x", "I", false)
  | _ => ("PackedForest$Setting", "made", "Z", false)
def zzt7 : Nat → FieldType := fun k => match k with
  | 0 => .object "PackedForest$Grammar"
  | 1 => .array .int
  | 2 => .int
  | 3 => .int
  | 4 => .array .int
  | 5 => .int
  | 6 => .int
  | 7 => .array .int
  | 8 => .int
  | 9 => .int
  | _ => .boolean
theorem zzt7_ok : ∀ k, k < 11 → parseFieldDescriptor (zzT7 k).2.2.1 = some (zzt7 k) := by decide +kernel
theorem zzn7 : ∀ a, a < 11 → ∀ b, b < 11 → a ≠ b → (zzT7 a).2.1 ≠ (zzT7 b).2.1 := by decide +kernel
def zzR8 : String := "PackedForest$Sizes"
def zzT8 : u_T := fun k => match k with
  | 0 => ("PackedForest$Sizes", "now", "LPackedForest$Setting;", true)
  | 1 => ("PackedForest$Sizes", "chart", "LPackedForest$Chart;", true)
  | 2 => ("PackedForest$Sizes", "columns", "I", false)
  | 3 => ("PackedForest$Sizes", "rule", "I", false)
  | 4 => ("PackedForest$Sizes", "from", "I", false)
  | 5 => ("PackedForest$Sizes", "to", "I", false)
  | 6 => ("PackedForest$Sizes", "least", "[J", true)
  | 7 => ("PackedForest$Sizes", "parts", "[J", true)
  | _ => ("PackedForest$Sizes", "rest", "[J", true)
def zzt8 : Nat → FieldType := fun k => match k with
  | 0 => .object "PackedForest$Setting"
  | 1 => .object "PackedForest$Chart"
  | 2 => .int
  | 3 => .int
  | 4 => .int
  | 5 => .int
  | 6 => .array .long
  | 7 => .array .long
  | _ => .array .long
theorem zzt8_ok : ∀ k, k < 9 → parseFieldDescriptor (zzT8 k).2.2.1 = some (zzt8 k) := by decide +kernel
theorem zzn8 : ∀ a, a < 9 → ∀ b, b < 9 → a ≠ b → (zzT8 a).2.1 ≠ (zzT8 b).2.1 := by decide +kernel
def zzR9 : String := "PackedForest$Speaker"
def zzT9 : u_T := fun k => match k with
  | 0 => ("PackedForest$Speaker", "now", "LPackedForest$Setting;", true)
  | 1 => ("PackedForest$Speaker", "row", "[I", true)
  | 2 => ("PackedForest$Speaker", "length", "I", false)
  | _ => ("PackedForest$Speaker", "x", "J", false)
def zzt9 : Nat → FieldType := fun k => match k with
  | 0 => .object "PackedForest$Setting"
  | 1 => .array .int
  | 2 => .int
  | _ => .long
theorem zzt9_ok : ∀ k, k < 4 → parseFieldDescriptor (zzT9 k).2.2.1 = some (zzt9 k) := by decide +kernel
theorem zzn9 : ∀ a, a < 4 → ∀ b, b < 4 → a ≠ b → (zzT9 a).2.1 ≠ (zzT9 b).2.1 := by decide +kernel
def zzR10 : String := "PackedForest$States"
def zzT10 : u_T := fun k => match k with
  | 0 => ("PackedForest$States", "stand", "Z", false)
  | 1 => ("PackedForest$States", "found", "I", false)
  | 2 => ("PackedForest$States", "sets", "[J", true)
  | 3 => ("PackedForest$States", "targets", "[I", true)
  | 4 => ("PackedForest$States", "ahead", "[J", true)
  | _ => ("PackedForest$States", "brought", "[J", true)
def zzt10 : Nat → FieldType := fun k => match k with
  | 0 => .boolean
  | 1 => .int
  | 2 => .array .long
  | 3 => .array .int
  | 4 => .array .long
  | _ => .array .long
theorem zzt10_ok : ∀ k, k < 6 → parseFieldDescriptor (zzT10 k).2.2.1 = some (zzt10 k) := by decide +kernel
theorem zzn10 : ∀ a, a < 6 → ∀ b, b < 6 → a ≠ b → (zzT10 a).2.1 ≠ (zzT10 b).2.1 := by decide +kernel
def zzR11 : String := "PackedForest"
def zzT11 : u_T := fun k => match k with
  | 0 => ("PackedForest", "tape", "[I", true)
  | 1 => ("PackedForest", "tapeBytes", "I", false)
  | 2 => ("PackedForest", "now", "LPackedForest$Setting;", true)
  | 3 => ("PackedForest", "images", "[LPackedForest$Setting;", true)
  | 4 => ("PackedForest", "spare", "LPackedForest$Grammar;", true)
  | 5 => ("PackedForest", "facts", "LPackedForest$Facts;", true)
  | 6 => ("PackedForest", "states", "LPackedForest$States;", true)
  | 7 => ("PackedForest", "plain", "LPackedForest$Chart;", true)
  | 8 => ("PackedForest", "allowed", "LPackedForest$Chart;", true)
  | 9 => ("PackedForest", "levels", "LPackedForest$Levels;", true)
  | 10 => ("PackedForest", "counts", "LPackedForest$Counts;", true)
  | 11 => ("PackedForest", "sizes", "LPackedForest$Sizes;", true)
  | 12 => ("PackedForest", "forest", "LPackedForest$Forest;", true)
  | 13 => ("PackedForest", "mender", "LPackedForest$Mender;", true)
  | _ => ("PackedForest", "speaker", "LPackedForest$Speaker;", true)
def zzt11 : Nat → FieldType := fun k => match k with
  | 0 => .array .int
  | 1 => .int
  | 2 => .object "PackedForest$Setting"
  | 3 => .array (.object "PackedForest$Setting")
  | 4 => .object "PackedForest$Grammar"
  | 5 => .object "PackedForest$Facts"
  | 6 => .object "PackedForest$States"
  | 7 => .object "PackedForest$Chart"
  | 8 => .object "PackedForest$Chart"
  | 9 => .object "PackedForest$Levels"
  | 10 => .object "PackedForest$Counts"
  | 11 => .object "PackedForest$Sizes"
  | 12 => .object "PackedForest$Forest"
  | 13 => .object "PackedForest$Mender"
  | _ => .object "PackedForest$Speaker"
theorem zzt11_ok : ∀ k, k < 15 → parseFieldDescriptor (zzT11 k).2.2.1 = some (zzt11 k) := by decide +kernel
theorem zzn11 : ∀ a, a < 15 → ∀ b, b < 15 → a ≠ b → (zzT11 a).2.1 ≠ (zzT11 b).2.1 := by decide +kernel
def zzR12 : String := "PackedForestModel"
def zzT12 : u_T := fun k => match k with
  | 0 => ("PackedForestModel", "thrown", "I", false)
  | 1 => ("PackedForestModel", "scalar", "[I", true)
  | 2 => ("PackedForestModel", "left", "[I", true)
  | 3 => ("PackedForestModel", "size", "[I", true)
  | 4 => ("PackedForestModel", "sym", "[I", true)
  | 5 => ("PackedForestModel", "rank", "[I", true)
  | 6 => ("PackedForestModel", "side", "[I", true)
  | 7 => ("PackedForestModel", "text", "[I", true)
  | 8 => ("PackedForestModel", "bans", "[I", true)
  | 9 => ("PackedForestModel", "newLeft", "[I", true)
  | 10 => ("PackedForestModel", "newSize", "[I", true)
  | 11 => ("PackedForestModel", "newSym", "[I", true)
  | 12 => ("PackedForestModel", "newRank", "[I", true)
  | 13 => ("PackedForestModel", "newSide", "[I", true)
  | 14 => ("PackedForestModel", "symAt", "[I", true)
  | 15 => ("PackedForestModel", "newMany", "I", false)
  | 16 => ("PackedForestModel", "taped", "I", false)
  | 17 => ("PackedForestModel", "p", "I", false)
  | 18 => ("PackedForestModel", "fault", "I", false)
  | 19 => ("PackedForestModel", "tape", "[B", true)
  | 20 => ("PackedForestModel", "oldScalar", "[I", true)
  | 21 => ("PackedForestModel", "oldLeft", "[I", true)
  | 22 => ("PackedForestModel", "oldSize", "[I", true)
  | 23 => ("PackedForestModel", "oldSym", "[I", true)
  | 24 => ("PackedForestModel", "oldRank", "[I", true)
  | 25 => ("PackedForestModel", "oldSide", "[I", true)
  | 26 => ("PackedForestModel", "empties", "I", false)
  | 27 => ("PackedForestModel", "ending", "I", false)
  | 28 => ("PackedForestModel", "reached", "I", false)
  | 29 => ("PackedForestModel", "all", "I", false)
  | 30 => ("PackedForestModel", "first", "[I", true)
  | 31 => ("PackedForestModel", "follow", "[I", true)
  | 32 => ("PackedForestModel", "fewest", "[I", true)
  | 33 => ("PackedForestModel", "stateOf", "[J", true)
  | 34 => ("PackedForestModel", "goTo", "[I", true)
  | 35 => ("PackedForestModel", "manyStates", "I", false)
  | 36 => ("PackedForestModel", "isLaid", "I", false)
  | 37 => ("PackedForestModel", "past", "[I", true)
  | 38 => ("PackedForestModel", "pastOf", "[I", true)
  | 39 => ("PackedForestModel", "pastMany", "I", false)
  | 40 => ("PackedForestModel", "pastAt", "I", false)
  | 41 => ("PackedForestModel", "takesBack", "Z", false)
  | 42 => ("PackedForestModel", "made", "[Z", true)
  | 43 => ("PackedForestModel", "ahead", "[Z", true)
  | 44 => ("PackedForestModel", "behind", "[Z", true)
  | 45 => ("PackedForestModel", "isAlive", "[Z", true)
  | 46 => ("PackedForestModel", "isEndless", "[Z", true)
  | 47 => ("PackedForestModel", "manyTrees", "[J", true)
  | 48 => ("PackedForestModel", "counts", "[J", true)
  | 49 => ("PackedForestModel", "endlessAhead", "[Z", true)
  | 50 => ("PackedForestModel", "below", "[I", true)
  | 51 => ("PackedForestModel", "isPiece", "[Z", true)
  | 52 => ("PackedForestModel", "isGone", "[Z", true)
  | 53 => ("PackedForestModel", "waysAhead", "[I", true)
  | 54 => ("PackedForestModel", "pieces", "I", false)
  | 55 => ("PackedForestModel", "nodes", "I", false)
  | 56 => ("PackedForestModel", "unsure", "I", false)
  | 57 => ("PackedForestModel", "narrow", "I", false)
  | 58 => ("PackedForestModel", "sizeOf", "[I", true)
  | 59 => ("PackedForestModel", "sizesBehind", "[I", true)
  | 60 => ("PackedForestModel", "treeRule", "I", false)
  | 61 => ("PackedForestModel", "treeFrom", "I", false)
  | 62 => ("PackedForestModel", "treeTo", "I", false)
  | 63 => ("PackedForestModel", "treeLeft", "I", false)
  | 64 => ("PackedForestModel", "mended", "[I", true)
  | 65 => ("PackedForestModel", "mendedAhead", "[I", true)
  | 66 => ("PackedForestModel", "row", "[I", true)
  | 67 => ("PackedForestModel", "rowMany", "I", false)
  | 68 => ("PackedForestModel", "images", "[I", true)
  | 69 => ("PackedForestModel", "isKept", "[Z", true)
  | 70 => ("PackedForestModel", "imageAt", "I", false)
  | _ => ("PackedForestModel", "goesBack", "Z", false)
def zzt12 : Nat → FieldType := fun k => match k with
  | 0 => .int
  | 1 => .array .int
  | 2 => .array .int
  | 3 => .array .int
  | 4 => .array .int
  | 5 => .array .int
  | 6 => .array .int
  | 7 => .array .int
  | 8 => .array .int
  | 9 => .array .int
  | 10 => .array .int
  | 11 => .array .int
  | 12 => .array .int
  | 13 => .array .int
  | 14 => .array .int
  | 15 => .int
  | 16 => .int
  | 17 => .int
  | 18 => .int
  | 19 => .array .byte
  | 20 => .array .int
  | 21 => .array .int
  | 22 => .array .int
  | 23 => .array .int
  | 24 => .array .int
  | 25 => .array .int
  | 26 => .int
  | 27 => .int
  | 28 => .int
  | 29 => .int
  | 30 => .array .int
  | 31 => .array .int
  | 32 => .array .int
  | 33 => .array .long
  | 34 => .array .int
  | 35 => .int
  | 36 => .int
  | 37 => .array .int
  | 38 => .array .int
  | 39 => .int
  | 40 => .int
  | 41 => .boolean
  | 42 => .array .boolean
  | 43 => .array .boolean
  | 44 => .array .boolean
  | 45 => .array .boolean
  | 46 => .array .boolean
  | 47 => .array .long
  | 48 => .array .long
  | 49 => .array .boolean
  | 50 => .array .int
  | 51 => .array .boolean
  | 52 => .array .boolean
  | 53 => .array .int
  | 54 => .int
  | 55 => .int
  | 56 => .int
  | 57 => .int
  | 58 => .array .int
  | 59 => .array .int
  | 60 => .int
  | 61 => .int
  | 62 => .int
  | 63 => .int
  | 64 => .array .int
  | 65 => .array .int
  | 66 => .array .int
  | 67 => .int
  | 68 => .array .int
  | 69 => .array .boolean
  | 70 => .int
  | _ => .boolean
theorem zzt12_ok : ∀ k, k < 72 → parseFieldDescriptor (zzT12 k).2.2.1 = some (zzt12 k) := by decide +kernel
theorem zzn12 : ∀ a, a < 72 → ∀ b, b < 72 → a ≠ b → (zzT12 a).2.1 ≠ (zzT12 b).2.1 := by decide +kernel
def zzcl : List vw_C := [(zzR0, zzT0, 7), (zzR1, zzT1, 5), (zzR2, zzT2, 11), (zzR3, zzT3, 10), (zzR4, zzT4, 8), (zzR5, zzT5, 8), (zzR6, zzT6, 4), (zzR7, zzT7, 11), (zzR8, zzT8, 9), (zzR9, zzT9, 4), (zzR10, zzT10, 6), (zzR11, zzT11, 15), (zzR12, zzT12, 72)]
/-- the cells: an object by its class and fields (0 int, 1 boolean, 2 long, 3 the cell that it names), an array by its kind (0 int, 1 boolean, 2 byte, 3 long, 4 references), length, cells named -/
abbrev zzD : Type := (Nat × List (Nat × Nat)) ⊕ (Nat × Nat × List Nat)
def zzcells : List zzD := [
  .inl (11, [(3, 1), (0, 0), (3, 2), (3, 13), (3, 14), (3, 21), (3, 26), (3, 31), (3, 36), (3, 41), (3, 45), (3, 48), (3, 52), (3, 56), (3, 59)]),
  .inr (0, 400, []),
  .inl (7, [(3, 3), (3, 10), (0, 0), (0, 0), (3, 11), (0, 0), (0, 0), (3, 12), (0, 0), (0, 0), (1, 0)]),
  .inl (4, [(0, 0), (0, 0), (3, 4), (3, 5), (3, 6), (3, 7), (3, 8), (3, 9)]),
  .inr (0, 12, []),
  .inr (0, 12, []),
  .inr (0, 12, []),
  .inr (0, 12, []),
  .inr (0, 48, []),
  .inr (0, 26, []),
  .inr (0, 12, []),
  .inr (0, 48, []),
  .inr (0, 20, []),
  .inr (4, 4, [61, 72, 83, 94]),
  .inl (4, [(0, 0), (0, 0), (3, 15), (3, 16), (3, 17), (3, 18), (3, 19), (3, 20)]),
  .inr (0, 12, []),
  .inr (0, 12, []),
  .inr (0, 12, []),
  .inr (0, 12, []),
  .inr (0, 48, []),
  .inr (0, 26, []),
  .inl (2, [(3, 2), (1, 0), (0, 0), (0, 0), (0, 0), (0, 0), (0, 0), (3, 22), (3, 23), (3, 24), (3, 25)]),
  .inr (0, 26, []),
  .inr (0, 26, []),
  .inr (0, 26, []),
  .inr (0, 26, []),
  .inl (10, [(1, 0), (0, 0), (3, 27), (3, 28), (3, 29), (3, 30)]),
  .inr (3, 90, []),
  .inr (0, 4680, []),
  .inr (3, 52, []),
  .inr (3, 26, []),
  .inl (0, [(3, 2), (1, 0), (0, 0), (3, 32), (3, 33), (3, 34), (3, 35)]),
  .inr (0, 48, []),
  .inr (0, 91, []),
  .inr (0, 624, []),
  .inr (0, 13, []),
  .inl (0, [(3, 2), (1, 0), (0, 0), (3, 37), (3, 38), (3, 39), (3, 40)]),
  .inr (0, 48, []),
  .inr (0, 91, []),
  .inr (0, 624, []),
  .inr (0, 13, []),
  .inl (5, [(3, 2), (3, 26), (3, 31), (1, 0), (3, 42), (3, 43), (3, 44), (0, 0)]),
  .inr (1, 1170, []),
  .inr (0, 1170, []),
  .inr (0, 90, []),
  .inl (1, [(3, 2), (3, 36), (0, 0), (3, 46), (3, 47)]),
  .inr (3, 1092, []),
  .inr (3, 13, []),
  .inl (8, [(3, 2), (3, 36), (0, 0), (0, 0), (0, 0), (0, 0), (3, 49), (3, 50), (3, 51)]),
  .inr (3, 1092, []),
  .inr (3, 4368, []),
  .inr (3, 65, []),
  .inl (3, [(3, 2), (3, 36), (1, 0), (1, 0), (3, 53), (0, 0), (0, 0), (0, 0), (3, 54), (3, 55)]),
  .inr (0, 91, []),
  .inr (0, 5, []),
  .inr (0, 5, []),
  .inl (6, [(3, 2), (0, 0), (3, 57), (3, 58)]),
  .inr (0, 2366, []),
  .inr (0, 13, []),
  .inl (9, [(3, 2), (3, 60), (0, 0), (2, 0)]),
  .inr (0, 24, []),
  .inl (7, [(3, 62), (3, 69), (0, 0), (0, 0), (3, 70), (0, 0), (0, 0), (3, 71), (0, 0), (0, 0), (1, 0)]),
  .inl (4, [(0, 0), (0, 0), (3, 63), (3, 64), (3, 65), (3, 66), (3, 67), (3, 68)]),
  .inr (0, 12, []),
  .inr (0, 12, []),
  .inr (0, 12, []),
  .inr (0, 12, []),
  .inr (0, 48, []),
  .inr (0, 26, []),
  .inr (0, 12, []),
  .inr (0, 48, []),
  .inr (0, 20, []),
  .inl (7, [(3, 73), (3, 80), (0, 0), (0, 0), (3, 81), (0, 0), (0, 0), (3, 82), (0, 0), (0, 0), (1, 0)]),
  .inl (4, [(0, 0), (0, 0), (3, 74), (3, 75), (3, 76), (3, 77), (3, 78), (3, 79)]),
  .inr (0, 12, []),
  .inr (0, 12, []),
  .inr (0, 12, []),
  .inr (0, 12, []),
  .inr (0, 48, []),
  .inr (0, 26, []),
  .inr (0, 12, []),
  .inr (0, 48, []),
  .inr (0, 20, []),
  .inl (7, [(3, 84), (3, 91), (0, 0), (0, 0), (3, 92), (0, 0), (0, 0), (3, 93), (0, 0), (0, 0), (1, 0)]),
  .inl (4, [(0, 0), (0, 0), (3, 85), (3, 86), (3, 87), (3, 88), (3, 89), (3, 90)]),
  .inr (0, 12, []),
  .inr (0, 12, []),
  .inr (0, 12, []),
  .inr (0, 12, []),
  .inr (0, 48, []),
  .inr (0, 26, []),
  .inr (0, 12, []),
  .inr (0, 48, []),
  .inr (0, 20, []),
  .inl (7, [(3, 95), (3, 102), (0, 0), (0, 0), (3, 103), (0, 0), (0, 0), (3, 104), (0, 0), (0, 0), (1, 0)]),
  .inl (4, [(0, 0), (0, 0), (3, 96), (3, 97), (3, 98), (3, 99), (3, 100), (3, 101)]),
  .inr (0, 12, []),
  .inr (0, 12, []),
  .inr (0, 12, []),
  .inr (0, 12, []),
  .inr (0, 48, []),
  .inr (0, 26, []),
  .inr (0, 12, []),
  .inr (0, 48, []),
  .inr (0, 20, []),
  .inl (12, [(0, 0), (3, 106), (3, 107), (3, 108), (3, 109), (3, 110), (3, 111), (3, 112), (3, 113), (3, 114), (3, 115), (3, 116), (3, 117), (3, 118), (3, 119), (0, 0), (0, 0), (0, 0), (0, 0), (3, 120), (3, 121), (3, 122), (3, 123), (3, 124), (3, 125), (3, 126), (0, 0), (0, 0), (0, 0), (0, 0), (3, 127), (3, 128), (3, 129), (3, 130), (3, 131), (0, 0), (0, 0), (3, 132), (3, 133), (0, 0), (0, 0), (1, 0), (3, 134), (3, 135), (3, 136), (3, 137), (3, 138), (3, 139), (3, 140), (3, 141), (3, 142), (3, 143), (3, 144), (3, 145), (0, 0), (0, 0), (0, 0), (0, 0), (3, 146), (3, 147), (0, 0), (0, 0), (0, 0), (0, 0), (3, 148), (3, 149), (3, 150), (0, 0), (3, 151), (3, 152), (0, 0), (1, 0)]),
  .inr (0, 7, []),
  .inr (0, 12, []),
  .inr (0, 12, []),
  .inr (0, 48, []),
  .inr (0, 12, []),
  .inr (0, 12, []),
  .inr (0, 12, []),
  .inr (0, 8, []),
  .inr (0, 12, []),
  .inr (0, 12, []),
  .inr (0, 48, []),
  .inr (0, 12, []),
  .inr (0, 12, []),
  .inr (0, 48, []),
  .inr (2, 400, []),
  .inr (0, 7, []),
  .inr (0, 12, []),
  .inr (0, 12, []),
  .inr (0, 48, []),
  .inr (0, 12, []),
  .inr (0, 12, []),
  .inr (0, 26, []),
  .inr (0, 26, []),
  .inr (0, 26, []),
  .inr (3, 90, []),
  .inr (0, 4680, []),
  .inr (0, 480, []),
  .inr (0, 1, []),
  .inr (1, 4056, []),
  .inr (1, 65, []),
  .inr (1, 65, []),
  .inr (1, 1170, []),
  .inr (1, 2028, []),
  .inr (3, 2028, []),
  .inr (3, 65, []),
  .inr (1, 65, []),
  .inr (0, 12, []),
  .inr (1, 2028, []),
  .inr (1, 2028, []),
  .inr (0, 65, []),
  .inr (0, 2028, []),
  .inr (0, 65, []),
  .inr (0, 2028, []),
  .inr (0, 65, []),
  .inr (0, 28, []),
  .inr (0, 2560, []),
  .inr (1, 4, [])]
theorem zzlen : zzcells.length = 153 := by decide +kernel
