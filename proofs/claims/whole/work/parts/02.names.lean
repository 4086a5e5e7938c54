def RX0 : String := "UntoldFacts$Book"
def TX0 : u_T := fun k => match k with
  | 0 => ("UntoldFacts$Book", "speaker", "[I", true)
  | 1 => ("UntoldFacts$Book", "hearer", "[I", true)
  | 2 => ("UntoldFacts$Book", "subject", "[I", true)
  | 3 => ("UntoldFacts$Book", "known", "[I", true)
  | _ => ("UntoldFacts$Book", "count", "I", false)
def tyX0 : Nat → FieldType := fun k => match k with
  | 0 => .array .int
  | 1 => .array .int
  | 2 => .array .int
  | 3 => .array .int
  | _ => .int
theorem nmX0 : ∀ a, a < 5 → ∀ b, b < 5 → a ≠ b → (TX0 a).2.1 ≠ (TX0 b).2.1 := by decide +kernel
theorem tyX0_ok : ∀ k, k < 5 → parseFieldDescriptor (TX0 k).2.2.1 = some (tyX0 k) := by decide +kernel
def RX2 : String := "UntoldFacts$HatCounter"
def TX2 : u_T := fun k => match k with
  | _ => ("UntoldFacts$HatCounter", "apart", "[Z", true)
def tyX2 : Nat → FieldType := fun k => match k with
  | _ => .array .boolean
theorem nmX2 : ∀ a, a < 1 → ∀ b, b < 1 → a ≠ b → (TX2 a).2.1 ≠ (TX2 b).2.1 := by decide +kernel
theorem tyX2_ok : ∀ k, k < 1 → parseFieldDescriptor (TX2 k).2.2.1 = some (tyX2 k) := by decide +kernel
def RX3 : String := "UntoldFacts$Planner"
def TX3 : u_T := fun k => match k with
  | 0 => ("UntoldFacts$Planner", "speaker", "[I", true)
  | 1 => ("UntoldFacts$Planner", "subject", "[I", true)
  | 2 => ("UntoldFacts$Planner", "town", "LUntoldFacts$Town;", false)
  | 3 => ("UntoldFacts$Planner", "first", "I", false)
  | 4 => ("UntoldFacts$Planner", "second", "I", false)
  | 5 => ("UntoldFacts$Planner", "goal", "I", false)
  | 6 => ("UntoldFacts$Planner", "onlyTold", "I", false)
  | 7 => ("UntoldFacts$Planner", "limit", "I", false)
  | _ => ("UntoldFacts$Planner", "count", "I", false)
def tyX3 : Nat → FieldType := fun k => match k with
  | 0 => .array .int
  | 1 => .array .int
  | 2 => .object "UntoldFacts$Town"
  | 3 => .int
  | 4 => .int
  | 5 => .int
  | 6 => .int
  | 7 => .int
  | _ => .int
theorem nmX3 : ∀ a, a < 9 → ∀ b, b < 9 → a ≠ b → (TX3 a).2.1 ≠ (TX3 b).2.1 := by decide +kernel
theorem tyX3_ok : ∀ k, k < 9 → parseFieldDescriptor (TX3 k).2.2.1 = some (tyX3 k) := by decide +kernel
def RX4 : String := "UntoldFacts$Reader"
def TX4 : u_T := fun k => match k with
  | 0 => ("UntoldFacts$Reader", "text", "LUntoldFacts$Text;", true)
  | 1 => ("UntoldFacts$Reader", "town", "LUntoldFacts$Town;", false)
  | 2 => ("UntoldFacts$Reader", "hatsTold", "Z", false)
  | 3 => ("UntoldFacts$Reader", "kind", "I", false)
  | 4 => ("UntoldFacts$Reader", "start", "I", false)
  | 5 => ("UntoldFacts$Reader", "end", "I", false)
  | 6 => ("UntoldFacts$Reader", "value", "I", false)
  | 7 => ("UntoldFacts$Reader", "faultNumber", "I", false)
  | _ => ("UntoldFacts$Reader", "faultAt", "I", false)
def tyX4 : Nat → FieldType := fun k => match k with
  | 0 => .object "UntoldFacts$Text"
  | 1 => .object "UntoldFacts$Town"
  | 2 => .boolean
  | 3 => .int
  | 4 => .int
  | 5 => .int
  | 6 => .int
  | 7 => .int
  | _ => .int
theorem nmX4 : ∀ a, a < 9 → ∀ b, b < 9 → a ≠ b → (TX4 a).2.1 ≠ (TX4 b).2.1 := by decide +kernel
theorem tyX4_ok : ∀ k, k < 9 → parseFieldDescriptor (TX4 k).2.2.1 = some (tyX4 k) := by decide +kernel
def RX5 : String := "UntoldFacts$Talk"
def TX5 : u_T := fun k => match k with
  | 0 => ("UntoldFacts$Talk", "known", "[I", true)
  | 1 => ("UntoldFacts$Talk", "hat", "[I", true)
  | 2 => ("UntoldFacts$Talk", "insults", "[I", true)
  | 3 => ("UntoldFacts$Talk", "views", "[J", true)
  | 4 => ("UntoldFacts$Talk", "logRows", "[I", true)
  | 5 => ("UntoldFacts$Talk", "logged", "I", false)
  | _ => ("UntoldFacts$Talk", "drawn", "I", false)
def tyX5 : Nat → FieldType := fun k => match k with
  | 0 => .array .int
  | 1 => .array .int
  | 2 => .array .int
  | 3 => .array .long
  | 4 => .array .int
  | 5 => .int
  | _ => .int
theorem nmX5 : ∀ a, a < 7 → ∀ b, b < 7 → a ≠ b → (TX5 a).2.1 ≠ (TX5 b).2.1 := by decide +kernel
theorem tyX5_ok : ∀ k, k < 7 → parseFieldDescriptor (TX5 k).2.2.1 = some (tyX5 k) := by decide +kernel
def RX6 : String := "UntoldFacts$Text"
def TX6 : u_T := fun k => match k with
  | 0 => ("UntoldFacts$Text", "bytes", "[I", true)
  | _ => ("UntoldFacts$Text", "length", "I", false)
def tyX6 : Nat → FieldType := fun k => match k with
  | 0 => .array .int
  | _ => .int
theorem nmX6 : ∀ a, a < 2 → ∀ b, b < 2 → a ≠ b → (TX6 a).2.1 ≠ (TX6 b).2.1 := by decide +kernel
theorem tyX6_ok : ∀ k, k < 2 → parseFieldDescriptor (TX6 k).2.2.1 = some (tyX6 k) := by decide +kernel
def RX7 : String := "UntoldFacts$Town"
def TX7 : u_T := fun k => match k with
  | 0 => ("UntoldFacts$Town", "facts", "I", false)
  | 1 => ("UntoldFacts$Town", "persons", "I", false)
  | 2 => ("UntoldFacts$Town", "hatCount", "I", false)
  | 3 => ("UntoldFacts$Town", "weight", "[I", true)
  | 4 => ("UntoldFacts$Town", "follows", "[I", true)
  | 5 => ("UntoldFacts$Town", "toldKnown", "[I", true)
  | 6 => ("UntoldFacts$Town", "needing", "[J", true)
  | 7 => ("UntoldFacts$Town", "wearing", "[J", true)
  | _ => ("UntoldFacts$Town", "closedSets", "J", false)
def tyX7 : Nat → FieldType := fun k => match k with
  | 0 => .int
  | 1 => .int
  | 2 => .int
  | 3 => .array .int
  | 4 => .array .int
  | 5 => .array .int
  | 6 => .array .long
  | 7 => .array .long
  | _ => .long
theorem nmX7 : ∀ a, a < 9 → ∀ b, b < 9 → a ≠ b → (TX7 a).2.1 ≠ (TX7 b).2.1 := by decide +kernel
theorem tyX7_ok : ∀ k, k < 9 → parseFieldDescriptor (TX7 k).2.2.1 = some (tyX7 k) := by decide +kernel
def RX8 : String := "UntoldFacts"
def TX8 : u_T := fun k => match k with
  | 0 => ("UntoldFacts", "text", "LUntoldFacts$Text;", true)
  | 1 => ("UntoldFacts", "reader", "LUntoldFacts$Reader;", true)
  | 2 => ("UntoldFacts", "planner", "LUntoldFacts$Planner;", true)
  | 3 => ("UntoldFacts", "hatCounter", "LUntoldFacts$HatCounter;", true)
  | 4 => ("UntoldFacts", "book", "LUntoldFacts$Book;", true)
  | 5 => ("UntoldFacts", "now", "LUntoldFacts$Talk;", true)
  | 6 => ("UntoldFacts", "images", "[LUntoldFacts$Talk;", true)
  | 7 => ("UntoldFacts", "kept", "[Z", true)
  | 8 => ("UntoldFacts", "place", "LUntoldFacts$Town;", false)
  | 9 => ("UntoldFacts", "draft", "LUntoldFacts$Town;", false)
  | _ => ("UntoldFacts", "faultAt", "I", false)
def tyX8 : Nat → FieldType := fun k => match k with
  | 0 => .object "UntoldFacts$Text"
  | 1 => .object "UntoldFacts$Reader"
  | 2 => .object "UntoldFacts$Planner"
  | 3 => .object "UntoldFacts$HatCounter"
  | 4 => .object "UntoldFacts$Book"
  | 5 => .object "UntoldFacts$Talk"
  | 6 => .array (.object "UntoldFacts$Talk")
  | 7 => .array .boolean
  | 8 => .object "UntoldFacts$Town"
  | 9 => .object "UntoldFacts$Town"
  | _ => .int
theorem nmX8 : ∀ a, a < 11 → ∀ b, b < 11 → a ≠ b → (TX8 a).2.1 ≠ (TX8 b).2.1 := by decide +kernel
theorem tyX8_ok : ∀ k, k < 11 → parseFieldDescriptor (TX8 k).2.2.1 = some (tyX8 k) := by decide +kernel
def RX9 : String := "UntoldFactsModel"
def TX9 : u_T := fun k => match k with
  | 0 => ("UntoldFactsModel", "facts", "I", false)
  | 1 => ("UntoldFactsModel", "weight", "[I", true)
  | 2 => ("UntoldFactsModel", "follows", "[I", true)
  | 3 => ("UntoldFactsModel", "persons", "I", false)
  | 4 => ("UntoldFactsModel", "toldKnows", "[I", true)
  | 5 => ("UntoldFactsModel", "count", "I", false)
  | 6 => ("UntoldFactsModel", "closedOf", "[I", true)
  | 7 => ("UntoldFactsModel", "allClosed", "J", false)
  | 8 => ("UntoldFactsModel", "knows", "[I", true)
  | 9 => ("UntoldFactsModel", "hat", "[I", true)
  | 10 => ("UntoldFactsModel", "can", "[J", true)
  | 11 => ("UntoldFactsModel", "insults", "[I", true)
  | 12 => ("UntoldFactsModel", "logged", "I", false)
  | 13 => ("UntoldFactsModel", "logs", "[I", true)
  | 14 => ("UntoldFactsModel", "seed", "I", false)
  | 15 => ("UntoldFactsModel", "text", "[I", true)
  | 16 => ("UntoldFactsModel", "texted", "I", false)
  | 17 => ("UntoldFactsModel", "faultPlace", "I", false)
  | 18 => ("UntoldFactsModel", "at0", "I", false)
  | 19 => ("UntoldFactsModel", "said", "J", false)
  | 20 => ("UntoldFactsModel", "wordEnd", "I", false)
  | 21 => ("UntoldFactsModel", "number", "I", false)
  | 22 => ("UntoldFactsModel", "numberAt", "I", false)
  | 23 => ("UntoldFactsModel", "readFacts", "I", false)
  | 24 => ("UntoldFactsModel", "readWeight", "[I", true)
  | 25 => ("UntoldFactsModel", "readFollows", "[I", true)
  | 26 => ("UntoldFactsModel", "readPersons", "I", false)
  | 27 => ("UntoldFactsModel", "readKnows", "[I", true)
  | 28 => ("UntoldFactsModel", "readCount", "I", false)
  | 29 => ("UntoldFactsModel", "surely", "[I", true)
  | 30 => ("UntoldFactsModel", "oneKnows", "[I", true)
  | 31 => ("UntoldFactsModel", "twoKnows", "[I", true)
  | 32 => ("UntoldFactsModel", "ofTwo", "[J", true)
  | 33 => ("UntoldFactsModel", "ofOne", "[J", true)
  | 34 => ("UntoldFactsModel", "tries", "[I", true)
  | 35 => ("UntoldFactsModel", "booked", "I", false)
  | 36 => ("UntoldFactsModel", "bookOne", "[I", true)
  | 37 => ("UntoldFactsModel", "bookTwo", "[I", true)
  | 38 => ("UntoldFactsModel", "bookFact", "[I", true)
  | 39 => ("UntoldFactsModel", "tried", "[I", true)
  | 40 => ("UntoldFactsModel", "images", "[I", true)
  | 41 => ("UntoldFactsModel", "imageSets", "[J", true)
  | _ => ("UntoldFactsModel", "isKept", "[Z", true)
def tyX9 : Nat → FieldType := fun k => match k with
  | 0 => .int
  | 1 => .array .int
  | 2 => .array .int
  | 3 => .int
  | 4 => .array .int
  | 5 => .int
  | 6 => .array .int
  | 7 => .long
  | 8 => .array .int
  | 9 => .array .int
  | 10 => .array .long
  | 11 => .array .int
  | 12 => .int
  | 13 => .array .int
  | 14 => .int
  | 15 => .array .int
  | 16 => .int
  | 17 => .int
  | 18 => .int
  | 19 => .long
  | 20 => .int
  | 21 => .int
  | 22 => .int
  | 23 => .int
  | 24 => .array .int
  | 25 => .array .int
  | 26 => .int
  | 27 => .array .int
  | 28 => .int
  | 29 => .array .int
  | 30 => .array .int
  | 31 => .array .int
  | 32 => .array .long
  | 33 => .array .long
  | 34 => .array .int
  | 35 => .int
  | 36 => .array .int
  | 37 => .array .int
  | 38 => .array .int
  | 39 => .array .int
  | 40 => .array .int
  | 41 => .array .long
  | _ => .array .boolean
theorem nmX9 : ∀ a, a < 43 → ∀ b, b < 43 → a ≠ b → (TX9 a).2.1 ≠ (TX9 b).2.1 := by decide +kernel
theorem tyX9_ok : ∀ k, k < 43 → parseFieldDescriptor (TX9 k).2.2.1 = some (tyX9 k) := by decide +kernel
abbrev zCl : List vw_C := [(RX0, TX0, 5), (RX2, TX2, 1), (RX3, TX3, 9), (RX4, TX4, 9), (RX5, TX5, 7), (RX6, TX6, 2), (RX7, TX7, 9), (RX8, TX8, 11), (RX9, TX9, 43)]
/-- field codes: 0 int, 1 boolean, 2 long, 3 final reference, 4 other reference -/
def zFs : List (List Nat) := [[3, 3, 3, 3, 0], [3], [3, 3, 4, 0, 0, 0, 0, 0, 0], [3, 4, 1, 0, 0, 0, 0, 0, 0], [3, 3, 3, 3, 3, 0, 0], [3, 0], [0, 0, 0, 3, 3, 3, 3, 3, 2], [3, 3, 3, 3, 3, 3, 3, 3, 4, 4, 0], [0, 3, 3, 0, 3, 0, 3, 2, 3, 3, 3, 3, 0, 3, 0, 3, 0, 0, 0, 2, 0, 0, 0, 0, 3, 3, 0, 3, 0, 3, 3, 3, 3, 3, 3, 0, 3, 3, 3, 3, 3, 3, 3]]
