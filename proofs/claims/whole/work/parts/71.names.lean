def RX0 : String := "DearerByUse$Day"
def TX0 : u_T := fun k => match k with
  | 0 => ("DearerByUse$Day", "now", "[I", true)
  | 1 => ("DearerByUse$Day", "words", "LDearerByUse$Words;", true)
  | 2 => ("DearerByUse$Day", "wanting", "LDearerByUse$Writers;", true)
  | 3 => ("DearerByUse$Day", "laws", "LDearerByUse$Laws;", true)
  | 4 => ("DearerByUse$Day", "texts", "LDearerByUse$Texts;", true)
  | 5 => ("DearerByUse$Day", "used", "[I", true)
  | 6 => ("DearerByUse$Day", "hours", "[I", true)
  | 7 => ("DearerByUse$Day", "law", "I", false)
  | 8 => ("DearerByUse$Day", "said", "[I", true)
  | 9 => ("DearerByUse$Day", "paid", "[I", true)
  | 10 => ("DearerByUse$Day", "good", "[I", true)
  | _ => ("DearerByUse$Day", "goodBy", "[I", true)
def tyX0 : Nat → FieldType := fun k => match k with
  | 0 => .array .int
  | 1 => .object "DearerByUse$Words"
  | 2 => .object "DearerByUse$Writers"
  | 3 => .object "DearerByUse$Laws"
  | 4 => .object "DearerByUse$Texts"
  | 5 => .array .int
  | 6 => .array .int
  | 7 => .int
  | 8 => .array .int
  | 9 => .array .int
  | 10 => .array .int
  | _ => .array .int
theorem nmX0 : ∀ a, a < 12 → ∀ b, b < 12 → a ≠ b → (TX0 a).2.1 ≠ (TX0 b).2.1 := by decide +kernel
theorem tyX0_ok : ∀ k, k < 12 → parseFieldDescriptor (TX0 k).2.2.1 = some (tyX0 k) := by decide +kernel
def RX1 : String := "DearerByUse$Image"
def TX1 : u_T := fun k => match k with
  | 0 => ("DearerByUse$Image", "there", "Z", false)
  | 1 => ("DearerByUse$Image", "used", "[I", true)
  | 2 => ("DearerByUse$Image", "words", "I", false)
  | 3 => ("DearerByUse$Image", "text", "I", false)
  | 4 => ("DearerByUse$Image", "things", "[I", true)
  | 5 => ("DearerByUse$Image", "hours", "[I", true)
  | 6 => ("DearerByUse$Image", "purses", "[I", true)
  | 7 => ("DearerByUse$Image", "wanting", "I", false)
  | 8 => ("DearerByUse$Image", "numbers", "[I", true)
  | 9 => ("DearerByUse$Image", "laws", "I", false)
  | _ => ("DearerByUse$Image", "law", "I", false)
def tyX1 : Nat → FieldType := fun k => match k with
  | 0 => .boolean
  | 1 => .array .int
  | 2 => .int
  | 3 => .int
  | 4 => .array .int
  | 5 => .array .int
  | 6 => .array .int
  | 7 => .int
  | 8 => .array .int
  | 9 => .int
  | _ => .int
theorem nmX1 : ∀ a, a < 11 → ∀ b, b < 11 → a ≠ b → (TX1 a).2.1 ≠ (TX1 b).2.1 := by decide +kernel
theorem tyX1_ok : ∀ k, k < 11 → parseFieldDescriptor (TX1 k).2.2.1 = some (tyX1 k) := by decide +kernel
def RX2 : String := "DearerByUse$Laws"
def TX2 : u_T := fun k => match k with
  | 0 => ("DearerByUse$Laws", "kinds", "[I", true)
  | 1 => ("DearerByUse$Laws", "numbers", "[I", true)
  | 2 => ("DearerByUse$Laws", "size", "I", false)
  | _ => ("DearerByUse$Laws", "ruling", "I", false)
def tyX2 : Nat → FieldType := fun k => match k with
  | 0 => .array .int
  | 1 => .array .int
  | 2 => .int
  | _ => .int
theorem nmX2 : ∀ a, a < 4 → ∀ b, b < 4 → a ≠ b → (TX2 a).2.1 ≠ (TX2 b).2.1 := by decide +kernel
theorem tyX2_ok : ∀ k, k < 4 → parseFieldDescriptor (TX2 k).2.2.1 = some (tyX2 k) := by decide +kernel
def RX3 : String := "DearerByUse$Reader"
def TX3 : u_T := fun k => match k with
  | 0 => ("DearerByUse$Reader", "tape", "[I", true)
  | 1 => ("DearerByUse$Reader", "size", "I", false)
  | 2 => ("DearerByUse$Reader", "code", "[I", true)
  | 3 => ("DearerByUse$Reader", "ends", "[I", true)
  | 4 => ("DearerByUse$Reader", "place", "I", false)
  | 5 => ("DearerByUse$Reader", "token", "I", false)
  | 6 => ("DearerByUse$Reader", "start", "I", false)
  | 7 => ("DearerByUse$Reader", "value", "I", false)
  | 8 => ("DearerByUse$Reader", "fault", "I", false)
  | _ => ("DearerByUse$Reader", "written", "I", false)
def tyX3 : Nat → FieldType := fun k => match k with
  | 0 => .array .int
  | 1 => .int
  | 2 => .array .int
  | 3 => .array .int
  | 4 => .int
  | 5 => .int
  | 6 => .int
  | 7 => .int
  | 8 => .int
  | _ => .int
theorem nmX3 : ∀ a, a < 10 → ∀ b, b < 10 → a ≠ b → (TX3 a).2.1 ≠ (TX3 b).2.1 := by decide +kernel
theorem tyX3_ok : ∀ k, k < 10 → parseFieldDescriptor (TX3 k).2.2.1 = some (tyX3 k) := by decide +kernel
def RX4 : String := "DearerByUse$Sheets"
def TX4 : u_T := fun k => match k with
  | 0 => ("DearerByUse$Sheets", "sorts", "[I", true)
  | 1 => ("DearerByUse$Sheets", "sizes", "[I", true)
  | _ => ("DearerByUse$Sheets", "rows", "[[I", true)
def tyX4 : Nat → FieldType := fun k => match k with
  | 0 => .array .int
  | 1 => .array .int
  | _ => .array (.array .int)
theorem nmX4 : ∀ a, a < 3 → ∀ b, b < 3 → a ≠ b → (TX4 a).2.1 ≠ (TX4 b).2.1 := by decide +kernel
theorem tyX4_ok : ∀ k, k < 3 → parseFieldDescriptor (TX4 k).2.2.1 = some (tyX4 k) := by decide +kernel
def RX5 : String := "DearerByUse$Texts"
def TX5 : u_T := fun k => match k with
  | 0 => ("DearerByUse$Texts", "codes", "[[I", true)
  | 1 => ("DearerByUse$Texts", "ends", "[[I", true)
  | 2 => ("DearerByUse$Texts", "names", "[I", true)
  | 3 => ("DearerByUse$Texts", "stack", "[I", true)
  | 4 => ("DearerByUse$Texts", "size", "I", false)
  | _ => ("DearerByUse$Texts", "ruling", "I", false)
def tyX5 : Nat → FieldType := fun k => match k with
  | 0 => .array (.array .int)
  | 1 => .array (.array .int)
  | 2 => .array .int
  | 3 => .array .int
  | 4 => .int
  | _ => .int
theorem nmX5 : ∀ a, a < 6 → ∀ b, b < 6 → a ≠ b → (TX5 a).2.1 ≠ (TX5 b).2.1 := by decide +kernel
theorem tyX5_ok : ∀ k, k < 6 → parseFieldDescriptor (TX5 k).2.2.1 = some (tyX5 k) := by decide +kernel
def RX6 : String := "DearerByUse$Words"
def TX6 : u_T := fun k => match k with
  | 0 => ("DearerByUse$Words", "things", "[I", true)
  | 1 => ("DearerByUse$Words", "lengths", "[I", true)
  | 2 => ("DearerByUse$Words", "letters", "[[I", true)
  | _ => ("DearerByUse$Words", "size", "I", false)
def tyX6 : Nat → FieldType := fun k => match k with
  | 0 => .array .int
  | 1 => .array .int
  | 2 => .array (.array .int)
  | _ => .int
theorem nmX6 : ∀ a, a < 4 → ∀ b, b < 4 → a ≠ b → (TX6 a).2.1 ≠ (TX6 b).2.1 := by decide +kernel
theorem tyX6_ok : ∀ k, k < 4 → parseFieldDescriptor (TX6 k).2.2.1 = some (tyX6 k) := by decide +kernel
def RX7 : String := "DearerByUse$Writers"
def TX7 : u_T := fun k => match k with
  | 0 => ("DearerByUse$Writers", "things", "[I", true)
  | 1 => ("DearerByUse$Writers", "hours", "[I", true)
  | 2 => ("DearerByUse$Writers", "purses", "[I", true)
  | _ => ("DearerByUse$Writers", "size", "I", false)
def tyX7 : Nat → FieldType := fun k => match k with
  | 0 => .array .int
  | 1 => .array .int
  | 2 => .array .int
  | _ => .int
theorem nmX7 : ∀ a, a < 4 → ∀ b, b < 4 → a ≠ b → (TX7 a).2.1 ≠ (TX7 b).2.1 := by decide +kernel
theorem tyX7_ok : ∀ k, k < 4 → parseFieldDescriptor (TX7 k).2.2.1 = some (tyX7 k) := by decide +kernel
def RX8 : String := "DearerByUse"
def TX8 : u_T := fun k => match k with
  | 0 => ("DearerByUse", "used", "[I", true)
  | 1 => ("DearerByUse", "words", "LDearerByUse$Words;", true)
  | 2 => ("DearerByUse", "wanting", "LDearerByUse$Writers;", true)
  | 3 => ("DearerByUse", "laws", "LDearerByUse$Laws;", true)
  | 4 => ("DearerByUse", "reader", "LDearerByUse$Reader;", true)
  | 5 => ("DearerByUse", "texts", "LDearerByUse$Texts;", true)
  | 6 => ("DearerByUse", "thought", "LDearerByUse$Day;", true)
  | 7 => ("DearerByUse", "kept", "LDearerByUse$Image;", true)
  | _ => ("DearerByUse", "sheets", "LDearerByUse$Sheets;", true)
def tyX8 : Nat → FieldType := fun k => match k with
  | 0 => .array .int
  | 1 => .object "DearerByUse$Words"
  | 2 => .object "DearerByUse$Writers"
  | 3 => .object "DearerByUse$Laws"
  | 4 => .object "DearerByUse$Reader"
  | 5 => .object "DearerByUse$Texts"
  | 6 => .object "DearerByUse$Day"
  | 7 => .object "DearerByUse$Image"
  | _ => .object "DearerByUse$Sheets"
theorem nmX8 : ∀ a, a < 9 → ∀ b, b < 9 → a ≠ b → (TX8 a).2.1 ≠ (TX8 b).2.1 := by decide +kernel
theorem tyX8_ok : ∀ k, k < 9 → parseFieldDescriptor (TX8 k).2.2.1 = some (tyX8 k) := by decide +kernel
def RX9 : String := "DearerByUseModel"
def TX9 : u_T := fun k => match k with
  | 0 => ("DearerByUseModel", "thrown", "I", false)
  | 1 => ("DearerByUseModel", "texts", "[I", true)
  | 2 => ("DearerByUseModel", "textSize", "[I", true)
  | 3 => ("DearerByUseModel", "textCount", "I", false)
  | 4 => ("DearerByUseModel", "rule", "I", false)
  | 5 => ("DearerByUseModel", "tape", "[I", true)
  | 6 => ("DearerByUseModel", "taped", "I", false)
  | 7 => ("DearerByUseModel", "used", "[I", true)
  | 8 => ("DearerByUseModel", "wordThing", "[I", true)
  | 9 => ("DearerByUseModel", "wordLetters", "[I", true)
  | 10 => ("DearerByUseModel", "words", "I", false)
  | 11 => ("DearerByUseModel", "wants", "[I", true)
  | 12 => ("DearerByUseModel", "hours", "[I", true)
  | 13 => ("DearerByUseModel", "purses", "[I", true)
  | 14 => ("DearerByUseModel", "writerCount", "I", false)
  | 15 => ("DearerByUseModel", "kinds", "[I", true)
  | 16 => ("DearerByUseModel", "numbers", "[I", true)
  | 17 => ("DearerByUseModel", "laws", "I", false)
  | 18 => ("DearerByUseModel", "theLaw", "I", false)
  | 19 => ("DearerByUseModel", "ofUsed", "I", false)
  | 20 => ("DearerByUseModel", "ofHour", "I", false)
  | 21 => ("DearerByUseModel", "ofLetter", "I", false)
  | 22 => ("DearerByUseModel", "ofLength", "I", false)
  | 23 => ("DearerByUseModel", "ofPurse", "I", false)
  | 24 => ("DearerByUseModel", "ofMany", "I", false)
  | 25 => ("DearerByUseModel", "from", "I", false)
  | 26 => ("DearerByUseModel", "size", "I", false)
  | 27 => ("DearerByUseModel", "here", "I", false)
  | 28 => ("DearerByUseModel", "token", "I", false)
  | 29 => ("DearerByUseModel", "tokenAt", "I", false)
  | 30 => ("DearerByUseModel", "tokenWorth", "J", false)
  | 31 => ("DearerByUseModel", "open", "I", false)
  | 32 => ("DearerByUseModel", "bad", "Z", false)
  | 33 => ("DearerByUseModel", "fault", "I", false)
  | 34 => ("DearerByUseModel", "keptOf", "[J", true)
  | 35 => ("DearerByUseModel", "keptWas", "[I", true)
  | 36 => ("DearerByUseModel", "row", "[I", true)
  | 37 => ("DearerByUseModel", "aside", "[I", true)
  | 38 => ("DearerByUseModel", "said", "[I", true)
  | 39 => ("DearerByUseModel", "paid", "[I", true)
  | 40 => ("DearerByUseModel", "asked", "I", false)
  | 41 => ("DearerByUseModel", "askedSum", "I", false)
  | 42 => ("DearerByUseModel", "askedFits", "I", false)
  | 43 => ("DearerByUseModel", "bestHour", "I", false)
  | 44 => ("DearerByUseModel", "bestGood", "I", false)
  | 45 => ("DearerByUseModel", "hoursWas", "[I", true)
  | 46 => ("DearerByUseModel", "turnsMost", "I", false)
  | 47 => ("DearerByUseModel", "turnsDigits", "I", false)
  | 48 => ("DearerByUseModel", "usedKept", "[I", true)
  | 49 => ("DearerByUseModel", "writersKept", "[I", true)
  | 50 => ("DearerByUseModel", "numbersKept", "[I", true)
  | 51 => ("DearerByUseModel", "writersMany", "I", false)
  | 52 => ("DearerByUseModel", "wordsKept", "I", false)
  | 53 => ("DearerByUseModel", "lawsKept", "I", false)
  | 54 => ("DearerByUseModel", "theLawKept", "I", false)
  | 55 => ("DearerByUseModel", "ruleKept", "I", false)
  | 56 => ("DearerByUseModel", "isThere", "[Z", true)
  | 57 => ("DearerByUseModel", "sorts", "[I", true)
  | 58 => ("DearerByUseModel", "sheetSize", "[I", true)
  | _ => ("DearerByUseModel", "items", "[I", true)
def tyX9 : Nat → FieldType := fun k => match k with
  | 0 => .int
  | 1 => .array .int
  | 2 => .array .int
  | 3 => .int
  | 4 => .int
  | 5 => .array .int
  | 6 => .int
  | 7 => .array .int
  | 8 => .array .int
  | 9 => .array .int
  | 10 => .int
  | 11 => .array .int
  | 12 => .array .int
  | 13 => .array .int
  | 14 => .int
  | 15 => .array .int
  | 16 => .array .int
  | 17 => .int
  | 18 => .int
  | 19 => .int
  | 20 => .int
  | 21 => .int
  | 22 => .int
  | 23 => .int
  | 24 => .int
  | 25 => .int
  | 26 => .int
  | 27 => .int
  | 28 => .int
  | 29 => .int
  | 30 => .long
  | 31 => .int
  | 32 => .boolean
  | 33 => .int
  | 34 => .array .long
  | 35 => .array .int
  | 36 => .array .int
  | 37 => .array .int
  | 38 => .array .int
  | 39 => .array .int
  | 40 => .int
  | 41 => .int
  | 42 => .int
  | 43 => .int
  | 44 => .int
  | 45 => .array .int
  | 46 => .int
  | 47 => .int
  | 48 => .array .int
  | 49 => .array .int
  | 50 => .array .int
  | 51 => .int
  | 52 => .int
  | 53 => .int
  | 54 => .int
  | 55 => .int
  | 56 => .array .boolean
  | 57 => .array .int
  | 58 => .array .int
  | _ => .array .int
theorem nmX9 : ∀ a, a < 60 → ∀ b, b < 60 → a ≠ b → (TX9 a).2.1 ≠ (TX9 b).2.1 := by decide +kernel
theorem tyX9_ok : ∀ k, k < 60 → parseFieldDescriptor (TX9 k).2.2.1 = some (tyX9 k) := by decide +kernel
abbrev vwCl : List vw_C := [(RX0, TX0, 12), (RX1, TX1, 11), (RX2, TX2, 4), (RX3, TX3, 10), (RX4, TX4, 3), (RX5, TX5, 6), (RX6, TX6, 4), (RX7, TX7, 4), (RX8, TX8, 9), (RX9, TX9, 60)]
