section RnNames
def rnR0 : String := "KindPostman$Bag"
def rnT0 : u_T := fun k => match k with
  | 0 => ("KindPostman$Bag", "size", "I", false)
  | 1 => ("KindPostman$Bag", "nextNumber", "I", false)
  | 2 => ("KindPostman$Bag", "number", "[I", true)
  | 3 => ("KindPostman$Bag", "door", "[I", true)
  | 4 => ("KindPostman$Bag", "kind", "[I", true)
  | 5 => ("KindPostman$Bag", "much", "[I", true)
  | _ => ("KindPostman$Bag", "age", "[I", true)
def rnY0 : Nat → FieldType := fun k => match k with
  | 0 => .int
  | 1 => .int
  | 2 => .array .int
  | 3 => .array .int
  | 4 => .array .int
  | 5 => .array .int
  | _ => .array .int
theorem rnN0 : ∀ a, a < 7 → ∀ b, b < 7 → a ≠ b → (rnT0 a).2.1 ≠ (rnT0 b).2.1 := by decide +kernel
theorem rnO0 : ∀ k, k < 7 → parseFieldDescriptor (rnT0 k).2.2.1 = some (rnY0 k) := by decide +kernel
def rnR1 : String := "KindPostman$Doors"
def rnT1 : u_T := fun k => match k with
  | 0 => ("KindPostman$Doors", "count", "I", false)
  | 1 => ("KindPostman$Doors", "face", "[I", true)
  | 2 => ("KindPostman$Doors", "love", "[I", true)
  | 3 => ("KindPostman$Doors", "purse", "[I", true)
  | 4 => ("KindPostman$Doors", "got", "[I", true)
  | _ => ("KindPostman$Doors", "gotBefore", "[I", true)
def rnY1 : Nat → FieldType := fun k => match k with
  | 0 => .int
  | 1 => .array .int
  | 2 => .array .int
  | 3 => .array .int
  | 4 => .array .int
  | _ => .array .int
theorem rnN1 : ∀ a, a < 6 → ∀ b, b < 6 → a ≠ b → (rnT1 a).2.1 ≠ (rnT1 b).2.1 := by decide +kernel
theorem rnO1 : ∀ k, k < 6 → parseFieldDescriptor (rnT1 k).2.2.1 = some (rnY1 k) := by decide +kernel
def rnR2 : String := "KindPostman$Law"
def rnT2 : u_T := fun k => match k with
  | 0 => ("KindPostman$Law", "lines", "I", false)
  | 1 => ("KindPostman$Law", "size", "I", false)
  | 2 => ("KindPostman$Law", "word", "[I", true)
  | 3 => ("KindPostman$Law", "begin", "[I", true)
  | 4 => ("KindPostman$Law", "middle", "[I", true)
  | 5 => ("KindPostman$Law", "stop", "[I", true)
  | 6 => ("KindPostman$Law", "steps", "[I", true)
  | 7 => ("KindPostman$Law", "known", "[I", true)
  | _ => ("KindPostman$Law", "stack", "[I", true)
def rnY2 : Nat → FieldType := fun k => match k with
  | 0 => .int
  | 1 => .int
  | 2 => .array .int
  | 3 => .array .int
  | 4 => .array .int
  | 5 => .array .int
  | 6 => .array .int
  | 7 => .array .int
  | _ => .array .int
theorem rnN2 : ∀ a, a < 9 → ∀ b, b < 9 → a ≠ b → (rnT2 a).2.1 ≠ (rnT2 b).2.1 := by decide +kernel
theorem rnO2 : ∀ k, k < 9 → parseFieldDescriptor (rnT2 k).2.2.1 = some (rnY2 k) := by decide +kernel
def rnR3 : String := "KindPostman$Mind"
def rnT3 : u_T := fun k => match k with
  | 0 => ("KindPostman$Mind", "best", "[I", true)
  | 1 => ("KindPostman$Mind", "debtors", "[I", true)
  | 2 => ("KindPostman$Mind", "units", "[J", true)
  | _ => ("KindPostman$Mind", "possible", "[I", true)
def rnY3 : Nat → FieldType := fun k => match k with
  | 0 => .array .int
  | 1 => .array .int
  | 2 => .array .long
  | _ => .array .int
theorem rnN3 : ∀ a, a < 4 → ∀ b, b < 4 → a ≠ b → (rnT3 a).2.1 ≠ (rnT3 b).2.1 := by decide +kernel
theorem rnO3 : ∀ k, k < 4 → parseFieldDescriptor (rnT3 k).2.2.1 = some (rnY3 k) := by decide +kernel
def rnR4 : String := "KindPostman$Past"
def rnT4 : u_T := fun k => match k with
  | 0 => ("KindPostman$Past", "count", "I", false)
  | 1 => ("KindPostman$Past", "newest", "I", false)
  | _ => ("KindPostman$Past", "kept", "[LKindPostman$World;", true)
def rnY4 : Nat → FieldType := fun k => match k with
  | 0 => .int
  | 1 => .int
  | _ => .array (.object "KindPostman$World")
theorem rnN4 : ∀ a, a < 3 → ∀ b, b < 3 → a ≠ b → (rnT4 a).2.1 ≠ (rnT4 b).2.1 := by decide +kernel
theorem rnO4 : ∀ k, k < 3 → parseFieldDescriptor (rnT4 k).2.2.1 = some (rnY4 k) := by decide +kernel
def rnR5 : String := "KindPostman$Reader"
def rnT5 : u_T := fun k => match k with
  | 0 => ("KindPostman$Reader", "draft", "LKindPostman$Texts;", true)
  | 1 => ("KindPostman$Reader", "fault", "I", false)
  | 2 => ("KindPostman$Reader", "place", "I", false)
  | 3 => ("KindPostman$Reader", "tokens", "LKindPostman$Tokens;", true)
  | 4 => ("KindPostman$Reader", "at", "I", false)
  | 5 => ("KindPostman$Reader", "doorCount", "I", false)
  | 6 => ("KindPostman$Reader", "waiting", "[I", true)
  | 7 => ("KindPostman$Reader", "waits", "I", false)
  | _ => ("KindPostman$Reader", "opened", "I", false)
def rnY5 : Nat → FieldType := fun k => match k with
  | 0 => .object "KindPostman$Texts"
  | 1 => .int
  | 2 => .int
  | 3 => .object "KindPostman$Tokens"
  | 4 => .int
  | 5 => .int
  | 6 => .array .int
  | 7 => .int
  | _ => .int
theorem rnN5 : ∀ a, a < 9 → ∀ b, b < 9 → a ≠ b → (rnT5 a).2.1 ≠ (rnT5 b).2.1 := by decide +kernel
theorem rnO5 : ∀ k, k < 9 → parseFieldDescriptor (rnT5 k).2.2.1 = some (rnY5 k) := by decide +kernel
def rnR6 : String := "KindPostman$Texts"
def rnT6 : u_T := fun k => match k with
  | 0 => ("KindPostman$Texts", "law", "LKindPostman$Law;", true)
  | 1 => ("KindPostman$Texts", "posts", "I", false)
  | 2 => ("KindPostman$Texts", "postDay", "[I", true)
  | 3 => ("KindPostman$Texts", "postDoor", "[I", true)
  | 4 => ("KindPostman$Texts", "postKind", "[I", true)
  | 5 => ("KindPostman$Texts", "postMuch", "[I", true)
  | 6 => ("KindPostman$Texts", "walks", "I", false)
  | 7 => ("KindPostman$Texts", "walkDoor", "[I", true)
  | 8 => ("KindPostman$Texts", "streets", "I", false)
  | _ => ("KindPostman$Texts", "lengths", "[I", true)
def rnY6 : Nat → FieldType := fun k => match k with
  | 0 => .object "KindPostman$Law"
  | 1 => .int
  | 2 => .array .int
  | 3 => .array .int
  | 4 => .array .int
  | 5 => .array .int
  | 6 => .int
  | 7 => .array .int
  | 8 => .int
  | _ => .array .int
theorem rnN6 : ∀ a, a < 10 → ∀ b, b < 10 → a ≠ b → (rnT6 a).2.1 ≠ (rnT6 b).2.1 := by decide +kernel
theorem rnO6 : ∀ k, k < 10 → parseFieldDescriptor (rnT6 k).2.2.1 = some (rnY6 k) := by decide +kernel
def rnR7 : String := "KindPostman$Tokens"
def rnT7 : u_T := fun k => match k with
  | 0 => ("KindPostman$Tokens", "count", "I", false)
  | 1 => ("KindPostman$Tokens", "sort", "[I", true)
  | 2 => ("KindPostman$Tokens", "value", "[I", true)
  | 3 => ("KindPostman$Tokens", "place", "[I", true)
  | _ => ("KindPostman$Tokens", "stop", "[I", true)
def rnY7 : Nat → FieldType := fun k => match k with
  | 0 => .int
  | 1 => .array .int
  | 2 => .array .int
  | 3 => .array .int
  | _ => .array .int
theorem rnN7 : ∀ a, a < 5 → ∀ b, b < 5 → a ≠ b → (rnT7 a).2.1 ≠ (rnT7 b).2.1 := by decide +kernel
theorem rnO7 : ∀ k, k < 5 → parseFieldDescriptor (rnT7 k).2.2.1 = some (rnY7 k) := by decide +kernel
def rnR8 : String := "KindPostman$Told"
def rnT8 : u_T := fun k => match k with
  | 0 => ("KindPostman$Told", "blowCount", "I", false)
  | 1 => ("KindPostman$Told", "blows", "[I", true)
  | 2 => ("KindPostman$Told", "debtCount", "I", false)
  | 3 => ("KindPostman$Told", "nets", "[I", true)
  | 4 => ("KindPostman$Told", "stock", "[I", true)
  | 5 => ("KindPostman$Told", "spelledCount", "I", false)
  | 6 => ("KindPostman$Told", "spelled", "[I", true)
  | 7 => ("KindPostman$Told", "answerCount", "I", false)
  | 8 => ("KindPostman$Told", "answers", "[I", true)
  | 9 => ("KindPostman$Told", "changeCount", "I", false)
  | 10 => ("KindPostman$Told", "changeLetters", "[I", true)
  | _ => ("KindPostman$Told", "changes", "[I", true)
def rnY8 : Nat → FieldType := fun k => match k with
  | 0 => .int
  | 1 => .array .int
  | 2 => .int
  | 3 => .array .int
  | 4 => .array .int
  | 5 => .int
  | 6 => .array .int
  | 7 => .int
  | 8 => .array .int
  | 9 => .int
  | 10 => .array .int
  | _ => .array .int
theorem rnN8 : ∀ a, a < 12 → ∀ b, b < 12 → a ≠ b → (rnT8 a).2.1 ≠ (rnT8 b).2.1 := by decide +kernel
theorem rnO8 : ∀ k, k < 12 → parseFieldDescriptor (rnT8 k).2.2.1 = some (rnY8 k) := by decide +kernel
def rnR9 : String := "KindPostman$Ways"
def rnT9 : u_T := fun k => match k with
  | 0 => ("KindPostman$Ways", "distance", "[I", true)
  | 1 => ("KindPostman$Ways", "goals", "[I", true)
  | _ => ("KindPostman$Ways", "piles", "[I", true)
def rnY9 : Nat → FieldType := fun k => match k with
  | 0 => .array .int
  | 1 => .array .int
  | _ => .array .int
theorem rnN9 : ∀ a, a < 3 → ∀ b, b < 3 → a ≠ b → (rnT9 a).2.1 ≠ (rnT9 b).2.1 := by decide +kernel
theorem rnO9 : ∀ k, k < 3 → parseFieldDescriptor (rnT9 k).2.2.1 = some (rnY9 k) := by decide +kernel
def rnR10 : String := "KindPostman$World"
def rnT10 : u_T := fun k => match k with
  | 0 => ("KindPostman$World", "doors", "LKindPostman$Doors;", true)
  | 1 => ("KindPostman$World", "bag", "LKindPostman$Bag;", true)
  | 2 => ("KindPostman$World", "gifts", "[I", true)
  | 3 => ("KindPostman$World", "bookRows", "[I", true)
  | 4 => ("KindPostman$World", "written", "I", false)
  | 5 => ("KindPostman$World", "health", "I", false)
  | 6 => ("KindPostman$World", "hunger", "I", false)
  | 7 => ("KindPostman$World", "sat", "I", false)
  | 8 => ("KindPostman$World", "lost", "I", false)
  | 9 => ("KindPostman$World", "hour", "I", false)
  | 10 => ("KindPostman$World", "rain", "I", false)
  | 11 => ("KindPostman$World", "day", "I", false)
  | 12 => ("KindPostman$World", "draws", "I", false)
  | _ => ("KindPostman$World", "inThought", "Z", true)
def rnY10 : Nat → FieldType := fun k => match k with
  | 0 => .object "KindPostman$Doors"
  | 1 => .object "KindPostman$Bag"
  | 2 => .array .int
  | 3 => .array .int
  | 4 => .int
  | 5 => .int
  | 6 => .int
  | 7 => .int
  | 8 => .int
  | 9 => .int
  | 10 => .int
  | 11 => .int
  | 12 => .int
  | _ => .boolean
theorem rnN10 : ∀ a, a < 14 → ∀ b, b < 14 → a ≠ b → (rnT10 a).2.1 ≠ (rnT10 b).2.1 := by decide +kernel
theorem rnO10 : ∀ k, k < 14 → parseFieldDescriptor (rnT10 k).2.2.1 = some (rnY10 k) := by decide +kernel
def rnR11 : String := "KindPostman"
def rnT11 : u_T := fun k => match k with
  | 0 => ("KindPostman", "world", "LKindPostman$World;", true)
  | 1 => ("KindPostman", "thought", "LKindPostman$World;", true)
  | 2 => ("KindPostman", "past", "LKindPostman$Past;", true)
  | 3 => ("KindPostman", "texts", "LKindPostman$Texts;", true)
  | 4 => ("KindPostman", "told", "LKindPostman$Told;", true)
  | 5 => ("KindPostman", "reader", "LKindPostman$Reader;", true)
  | 6 => ("KindPostman", "mind", "LKindPostman$Mind;", true)
  | 7 => ("KindPostman", "ways", "LKindPostman$Ways;", true)
  | 8 => ("KindPostman", "desk", "[I", false)
  | 9 => ("KindPostman", "tape", "[B", true)
  | 10 => ("KindPostman", "tapeLength", "I", false)
  | 11 => ("KindPostman", "worldThen", "LKindPostman$World;", true)
  | 12 => ("KindPostman", "textsThen", "LKindPostman$Texts;", true)
  | 13 => ("KindPostman", "toldThen", "LKindPostman$Told;", true)
  | _ => ("KindPostman", "imageTaken", "Z", false)
def rnY11 : Nat → FieldType := fun k => match k with
  | 0 => .object "KindPostman$World"
  | 1 => .object "KindPostman$World"
  | 2 => .object "KindPostman$Past"
  | 3 => .object "KindPostman$Texts"
  | 4 => .object "KindPostman$Told"
  | 5 => .object "KindPostman$Reader"
  | 6 => .object "KindPostman$Mind"
  | 7 => .object "KindPostman$Ways"
  | 8 => .array .int
  | 9 => .array .byte
  | 10 => .int
  | 11 => .object "KindPostman$World"
  | 12 => .object "KindPostman$Texts"
  | 13 => .object "KindPostman$Told"
  | _ => .boolean
theorem rnN11 : ∀ a, a < 15 → ∀ b, b < 15 → a ≠ b → (rnT11 a).2.1 ≠ (rnT11 b).2.1 := by decide +kernel
theorem rnO11 : ∀ k, k < 15 → parseFieldDescriptor (rnT11 k).2.2.1 = some (rnY11 k) := by decide +kernel
def rnR12 : String := "KindPostmanModel"
def rnT12 : u_T := fun k => match k with
  | 0 => ("KindPostmanModel", "told", "I", false)
  | 1 => ("KindPostmanModel", "now", "[I", true)
  | 2 => ("KindPostmanModel", "rows", "[I", true)
  | 3 => ("KindPostmanModel", "undoable", "I", false)
  | 4 => ("KindPostmanModel", "waiting", "[I", true)
  | 5 => ("KindPostmanModel", "isThought", "Z", false)
  | 6 => ("KindPostmanModel", "doors", "I", false)
  | 7 => ("KindPostmanModel", "love", "[I", true)
  | 8 => ("KindPostmanModel", "book", "[I", true)
  | 9 => ("KindPostmanModel", "tape", "[I", true)
  | 10 => ("KindPostmanModel", "taped", "I", false)
  | 11 => ("KindPostmanModel", "spot", "I", false)
  | 12 => ("KindPostmanModel", "from", "I", false)
  | 13 => ("KindPostmanModel", "token", "I", false)
  | 14 => ("KindPostmanModel", "value", "I", false)
  | 15 => ("KindPostmanModel", "words", "[I", true)
  | 16 => ("KindPostmanModel", "lineMany", "[I", true)
  | 17 => ("KindPostmanModel", "lineWord", "[I", true)
  | 18 => ("KindPostmanModel", "lineFrom", "[I", true)
  | 19 => ("KindPostmanModel", "lineWhen", "[I", true)
  | 20 => ("KindPostmanModel", "lineTo", "[I", true)
  | 21 => ("KindPostmanModel", "op", "[I", true)
  | 22 => ("KindPostmanModel", "arg", "[I", true)
  | 23 => ("KindPostmanModel", "which", "I", false)
  | 24 => ("KindPostmanModel", "codes", "I", false)
  | 25 => ("KindPostmanModel", "open", "I", false)
  | 26 => ("KindPostmanModel", "pending", "[I", true)
  | 27 => ("KindPostmanModel", "pendings", "I", false)
  | 28 => ("KindPostmanModel", "readFault", "I", false)
  | 29 => ("KindPostmanModel", "readPlace", "I", false)
  | 30 => ("KindPostmanModel", "faultKind", "I", false)
  | 31 => ("KindPostmanModel", "faultPlace", "I", false)
  | 32 => ("KindPostmanModel", "postMany", "I", false)
  | 33 => ("KindPostmanModel", "posted", "[I", true)
  | 34 => ("KindPostmanModel", "walkMany", "I", false)
  | 35 => ("KindPostmanModel", "walks", "[I", true)
  | 36 => ("KindPostmanModel", "streetMany", "I", false)
  | 37 => ("KindPostmanModel", "streets", "[I", true)
  | 38 => ("KindPostmanModel", "asked", "[I", true)
  | 39 => ("KindPostmanModel", "stack", "[I", true)
  | 40 => ("KindPostmanModel", "gotSet", "I", false)
  | 41 => ("KindPostmanModel", "ways", "[I", true)
  | 42 => ("KindPostmanModel", "goalMany", "I", false)
  | 43 => ("KindPostmanModel", "goals", "[I", true)
  | 44 => ("KindPostmanModel", "walked", "[I", true)
  | 45 => ("KindPostmanModel", "blowMany", "I", false)
  | 46 => ("KindPostmanModel", "blows", "[I", true)
  | 47 => ("KindPostmanModel", "leftBy", "[I", true)
  | 48 => ("KindPostmanModel", "carried", "[I", true)
  | 49 => ("KindPostmanModel", "oweMany", "I", false)
  | 50 => ("KindPostmanModel", "nets", "[I", true)
  | 51 => ("KindPostmanModel", "groups", "[I", true)
  | 52 => ("KindPostmanModel", "stock", "[I", true)
  | 53 => ("KindPostmanModel", "spelled", "I", false)
  | 54 => ("KindPostmanModel", "word", "[I", true)
  | 55 => ("KindPostmanModel", "answerMany", "I", false)
  | 56 => ("KindPostmanModel", "answered", "[I", true)
  | 57 => ("KindPostmanModel", "faceMany", "I", false)
  | 58 => ("KindPostmanModel", "faceSet", "[I", true)
  | 59 => ("KindPostmanModel", "faceBy", "[I", true)
  | 60 => ("KindPostmanModel", "isTaking", "Z", false)
  | 61 => ("KindPostmanModel", "hasImage", "Z", false)
  | 62 => ("KindPostmanModel", "keptAt", "I", false)
  | _ => ("KindPostmanModel", "images", "[I", true)
def rnY12 : Nat → FieldType := fun k => match k with
  | 0 => .int
  | 1 => .array .int
  | 2 => .array .int
  | 3 => .int
  | 4 => .array .int
  | 5 => .boolean
  | 6 => .int
  | 7 => .array .int
  | 8 => .array .int
  | 9 => .array .int
  | 10 => .int
  | 11 => .int
  | 12 => .int
  | 13 => .int
  | 14 => .int
  | 15 => .array .int
  | 16 => .array .int
  | 17 => .array .int
  | 18 => .array .int
  | 19 => .array .int
  | 20 => .array .int
  | 21 => .array .int
  | 22 => .array .int
  | 23 => .int
  | 24 => .int
  | 25 => .int
  | 26 => .array .int
  | 27 => .int
  | 28 => .int
  | 29 => .int
  | 30 => .int
  | 31 => .int
  | 32 => .int
  | 33 => .array .int
  | 34 => .int
  | 35 => .array .int
  | 36 => .int
  | 37 => .array .int
  | 38 => .array .int
  | 39 => .array .int
  | 40 => .int
  | 41 => .array .int
  | 42 => .int
  | 43 => .array .int
  | 44 => .array .int
  | 45 => .int
  | 46 => .array .int
  | 47 => .array .int
  | 48 => .array .int
  | 49 => .int
  | 50 => .array .int
  | 51 => .array .int
  | 52 => .array .int
  | 53 => .int
  | 54 => .array .int
  | 55 => .int
  | 56 => .array .int
  | 57 => .int
  | 58 => .array .int
  | 59 => .array .int
  | 60 => .boolean
  | 61 => .boolean
  | 62 => .int
  | _ => .array .int
theorem rnN12 : ∀ a, a < 64 → ∀ b, b < 64 → a ≠ b → (rnT12 a).2.1 ≠ (rnT12 b).2.1 := by decide +kernel
theorem rnO12 : ∀ k, k < 64 → parseFieldDescriptor (rnT12 k).2.2.1 = some (rnY12 k) := by decide +kernel
/-- the classes of our objects -/
def rnCl : List vw_C := [(rnR0, rnT0, 7), (rnR1, rnT1, 6), (rnR2, rnT2, 9), (rnR3, rnT3, 4), (rnR4, rnT4, 3), (rnR5, rnT5, 9), (rnR6, rnT6, 10), (rnR7, rnT7, 5), (rnR8, rnT8, 12), (rnR9, rnT9, 3), (rnR10, rnT10, 14), (rnR11, rnT11, 15), (rnR12, rnT12, 64)]
def rnTy (ci k : Nat) : FieldType := match ci with
  | 0 => rnY0 k
  | 1 => rnY1 k
  | 2 => rnY2 k
  | 3 => rnY3 k
  | 4 => rnY4 k
  | 5 => rnY5 k
  | 6 => rnY6 k
  | 7 => rnY7 k
  | 8 => rnY8 k
  | 9 => rnY9 k
  | 10 => rnY10 k
  | 11 => rnY11 k
  | _ => rnY12 k
/-- kinds of fields: 0 an int, 1 a truth, 2 a reference -/
def rnKd (ci k : Nat) : Nat := match rnTy ci k with
  | .int => 0
  | .boolean => 1
  | _ => 2
/-- the shapes of the cells, in the order of their making: (class or 20 int row, 21 byte row, 22 long row, 23 row of worlds; how many slots) -/
def rnShL : List (Nat × Nat) := [
  (11, 15), (10, 14), (1, 6), (20, 12), (20, 12), (20, 12), (20, 12), (20, 12), (0, 7), (20, 24), (20, 24), (20, 24),
  (20, 24), (20, 24), (20, 7), (20, 600), (10, 14), (1, 6), (20, 12), (20, 12), (20, 12), (20, 12), (20, 12), (0, 7),
  (20, 24), (20, 24), (20, 24), (20, 24), (20, 24), (20, 7), (20, 0), (4, 3), (23, 6), (10, 14), (1, 6), (20, 12),
  (20, 12), (20, 12), (20, 12), (20, 12), (0, 7), (20, 24), (20, 24), (20, 24), (20, 24), (20, 24), (20, 7), (20, 0),
  (10, 14), (1, 6), (20, 12), (20, 12), (20, 12), (20, 12), (20, 12), (0, 7), (20, 24), (20, 24), (20, 24), (20, 24),
  (20, 24), (20, 7), (20, 0), (10, 14), (1, 6), (20, 12), (20, 12), (20, 12), (20, 12), (20, 12), (0, 7), (20, 24),
  (20, 24), (20, 24), (20, 24), (20, 24), (20, 7), (20, 0), (10, 14), (1, 6), (20, 12), (20, 12), (20, 12), (20, 12),
  (20, 12), (0, 7), (20, 24), (20, 24), (20, 24), (20, 24), (20, 24), (20, 7), (20, 0), (10, 14), (1, 6), (20, 12),
  (20, 12), (20, 12), (20, 12), (20, 12), (0, 7), (20, 24), (20, 24), (20, 24), (20, 24), (20, 24), (20, 7), (20, 0),
  (10, 14), (1, 6), (20, 12), (20, 12), (20, 12), (20, 12), (20, 12), (0, 7), (20, 24), (20, 24), (20, 24), (20, 24),
  (20, 24), (20, 7), (20, 0), (6, 10), (2, 9), (20, 16), (20, 16), (20, 16), (20, 16), (20, 400), (20, 11), (20, 32),
  (20, 16), (20, 16), (20, 16), (20, 16), (20, 16), (20, 144), (8, 12), (20, 8), (20, 12), (20, 26), (20, 26), (20, 49),
  (20, 8), (20, 8), (5, 9), (6, 10), (2, 9), (20, 16), (20, 16), (20, 16), (20, 16), (20, 400), (20, 11), (20, 32),
  (20, 16), (20, 16), (20, 16), (20, 16), (20, 16), (20, 144), (7, 5), (20, 401), (20, 401), (20, 401), (20, 401), (20, 32),
  (3, 4), (20, 256), (20, 12), (22, 6), (20, 6), (9, 3), (20, 144), (20, 8), (20, 12), (20, 0), (21, 400), (10, 14),
  (1, 6), (20, 12), (20, 12), (20, 12), (20, 12), (20, 12), (0, 7), (20, 24), (20, 24), (20, 24), (20, 24), (20, 24),
  (20, 7), (20, 600), (6, 10), (2, 9), (20, 16), (20, 16), (20, 16), (20, 16), (20, 400), (20, 11), (20, 32), (20, 16),
  (20, 16), (20, 16), (20, 16), (20, 16), (20, 144), (8, 12), (20, 8), (20, 12), (20, 26), (20, 26), (20, 49), (20, 8),
  (20, 8), (12, 64), (20, 174), (20, 1044), (20, 174), (20, 12), (20, 600), (20, 400), (20, 153), (20, 2), (20, 48), (20, 48),
  (20, 48), (20, 48), (20, 1200), (20, 1200), (20, 40), (20, 128), (20, 32), (20, 288), (20, 11), (20, 420), (20, 144), (20, 12),
  (20, 2048), (20, 8), (20, 256), (20, 10025), (20, 12), (20, 4096), (20, 26), (20, 8), (20, 49), (20, 8), (20, 8), (20, 2300),
  (20, 10025)]
def rnSh (a : Nat) : Nat × Nat := rnShL.getD a (99, 0)
/-- how many slots the first n cells have -/
def rnSq (n : Nat) : Nat := ((rnShL.take n).map (fun q => q.2)).sum
end RnNames
