/-! names, shapes, methods, links: printed by gen2.py out of the claim's words -/
def Tn0 : u_T := fun k => match k with
  | 0 => ("ChildTrains", "children", "LChildTrains$Children;", true)
  | 1 => ("ChildTrains", "draft", "LChildTrains$Draft;", true)
  | 2 => ("ChildTrains", "platform", "LChildTrains$Platform;", true)
  | 3 => ("ChildTrains", "houses", "LChildTrains$Houses;", true)
  | 4 => ("ChildTrains", "meeting", "LChildTrains$Hall;", true)
  | 5 => ("ChildTrains", "lodging", "LChildTrains$Lodging;", true)
  | 6 => ("ChildTrains", "reader", "LChildTrains$OrderReader;", true)
  | 7 => ("ChildTrains", "register", "LChildTrains$Register;", true)
  | 8 => ("ChildTrains", "routes", "LChildTrains$Paths;", true)
  | 9 => ("ChildTrains", "tally", "[I", true)
  | 10 => ("ChildTrains", "delays", "[[I", true)
  | 11 => ("ChildTrains", "book", "LChildTrains$OrderBook;", false)
  | 12 => ("ChildTrains", "spareBook", "LChildTrains$OrderBook;", false)
  | _ => ("ChildTrains", "traced", "J", false)
def ty0 : Nat → FieldType := fun k => match k with
  | 0 => .object "ChildTrains$Children"
  | 1 => .object "ChildTrains$Draft"
  | 2 => .object "ChildTrains$Platform"
  | 3 => .object "ChildTrains$Houses"
  | 4 => .object "ChildTrains$Hall"
  | 5 => .object "ChildTrains$Lodging"
  | 6 => .object "ChildTrains$OrderReader"
  | 7 => .object "ChildTrains$Register"
  | 8 => .object "ChildTrains$Paths"
  | 9 => .array (.int)
  | 10 => .array (.array (.int))
  | 11 => .object "ChildTrains$OrderBook"
  | 12 => .object "ChildTrains$OrderBook"
  | _ => .long
theorem nm0 : ∀ a, a < 14 → ∀ b, b < 14 → a ≠ b → (Tn0 a).2.1 ≠ (Tn0 b).2.1 := by decide +kernel
theorem ty0_ok : ∀ k, k < 14 → parseFieldDescriptor (Tn0 k).2.2.1 = some (ty0 k) := by decide +kernel
def Tn1 : u_T := fun k => match k with
  | 0 => ("ChildTrains$Children", "sex", "[I", true)
  | 1 => ("ChildTrains$Children", "age", "[I", true)
  | 2 => ("ChildTrains$Children", "kin", "[I", true)
  | 3 => ("ChildTrains$Children", "group", "[I", true)
  | 4 => ("ChildTrains$Children", "name", "[J", true)
  | 5 => ("ChildTrains$Children", "letters", "[I", true)
  | _ => ("ChildTrains$Children", "size", "I", false)
def ty1 : Nat → FieldType := fun k => match k with
  | 0 => .array (.int)
  | 1 => .array (.int)
  | 2 => .array (.int)
  | 3 => .array (.int)
  | 4 => .array (.long)
  | 5 => .array (.int)
  | _ => .int
theorem nm1 : ∀ a, a < 7 → ∀ b, b < 7 → a ≠ b → (Tn1 a).2.1 ≠ (Tn1 b).2.1 := by decide +kernel
theorem ty1_ok : ∀ k, k < 7 → parseFieldDescriptor (Tn1 k).2.2.1 = some (ty1 k) := by decide +kernel
def Tn2 : u_T := fun k => match k with
  | 0 => ("ChildTrains$Draft", "text", "[I", true)
  | _ => ("ChildTrains$Draft", "length", "I", false)
def ty2 : Nat → FieldType := fun k => match k with
  | 0 => .array (.int)
  | _ => .int
theorem nm2 : ∀ a, a < 2 → ∀ b, b < 2 → a ≠ b → (Tn2 a).2.1 ≠ (Tn2 b).2.1 := by decide +kernel
theorem ty2_ok : ∀ k, k < 2 → parseFieldDescriptor (Tn2 k).2.2.1 = some (ty2 k) := by decide +kernel
def Tn3 : u_T := fun k => match k with
  | 0 => ("ChildTrains$Hall", "member", "[I", true)
  | 1 => ("ChildTrains$Hall", "houseOf", "[I", true)
  | _ => ("ChildTrains$Hall", "size", "I", false)
def ty3 : Nat → FieldType := fun k => match k with
  | 0 => .array (.int)
  | 1 => .array (.int)
  | _ => .int
theorem nm3 : ∀ a, a < 3 → ∀ b, b < 3 → a ≠ b → (Tn3 a).2.1 ≠ (Tn3 b).2.1 := by decide +kernel
theorem ty3_ok : ∀ k, k < 3 → parseFieldDescriptor (Tn3 k).2.2.1 = some (ty3 k) := by decide +kernel
def Tn4 : u_T := fun k => match k with
  | 0 => ("ChildTrains$Houses", "village", "[I", true)
  | 1 => ("ChildTrains$Houses", "kind", "[I", true)
  | 2 => ("ChildTrains$Houses", "beds", "[I", true)
  | 3 => ("ChildTrains$Houses", "takes", "[I", true)
  | 4 => ("ChildTrains$Houses", "habit", "[I", true)
  | _ => ("ChildTrains$Houses", "size", "I", false)
def ty4 : Nat → FieldType := fun k => match k with
  | 0 => .array (.int)
  | 1 => .array (.int)
  | 2 => .array (.int)
  | 3 => .array (.int)
  | 4 => .array (.int)
  | _ => .int
theorem nm4 : ∀ a, a < 6 → ∀ b, b < 6 → a ≠ b → (Tn4 a).2.1 ≠ (Tn4 b).2.1 := by decide +kernel
theorem ty4_ok : ∀ k, k < 6 → parseFieldDescriptor (Tn4 k).2.2.1 = some (ty4 k) := by decide +kernel
def Tn5 : u_T := fun k => match k with
  | 0 => ("ChildTrains$Lodging", "kinOf", "[I", true)
  | 1 => ("ChildTrains$Lodging", "takenBy", "[I", true)
  | 2 => ("ChildTrains$Lodging", "bedsOf", "[I", true)
  | 3 => ("ChildTrains$Lodging", "ofSort", "[I", true)
  | 4 => ("ChildTrains$Lodging", "kept", "[I", true)
  | 5 => ("ChildTrains$Lodging", "members", "I", false)
  | 6 => ("ChildTrains$Lodging", "homes", "I", false)
  | 7 => ("ChildTrains$Lodging", "village", "I", false)
  | 8 => ("ChildTrains$Lodging", "over", "I", false)
  | _ => ("ChildTrains$Lodging", "parted", "I", false)
def ty5 : Nat → FieldType := fun k => match k with
  | 0 => .array (.int)
  | 1 => .array (.int)
  | 2 => .array (.int)
  | 3 => .array (.int)
  | 4 => .array (.int)
  | 5 => .int
  | 6 => .int
  | 7 => .int
  | 8 => .int
  | _ => .int
theorem nm5 : ∀ a, a < 10 → ∀ b, b < 10 → a ≠ b → (Tn5 a).2.1 ≠ (Tn5 b).2.1 := by decide +kernel
theorem ty5_ok : ∀ k, k < 10 → parseFieldDescriptor (Tn5 k).2.2.1 = some (ty5 k) := by decide +kernel
def Tn6 : u_T := fun k => match k with
  | 0 => ("ChildTrains$OrderBook", "body", "[I", true)
  | 1 => ("ChildTrains$OrderBook", "day", "[I", true)
  | 2 => ("ChildTrains$OrderBook", "verdict", "[I", true)
  | 3 => ("ChildTrains$OrderBook", "deed", "[I", true)
  | 4 => ("ChildTrains$OrderBook", "conds", "[I", true)
  | 5 => ("ChildTrains$OrderBook", "condWhat", "[I", true)
  | 6 => ("ChildTrains$OrderBook", "condValue", "[I", true)
  | 7 => ("ChildTrains$OrderBook", "condNot", "[Z", true)
  | _ => ("ChildTrains$OrderBook", "size", "I", false)
def ty6 : Nat → FieldType := fun k => match k with
  | 0 => .array (.int)
  | 1 => .array (.int)
  | 2 => .array (.int)
  | 3 => .array (.int)
  | 4 => .array (.int)
  | 5 => .array (.int)
  | 6 => .array (.int)
  | 7 => .array (.boolean)
  | _ => .int
theorem nm6 : ∀ a, a < 9 → ∀ b, b < 9 → a ≠ b → (Tn6 a).2.1 ≠ (Tn6 b).2.1 := by decide +kernel
theorem ty6_ok : ∀ k, k < 9 → parseFieldDescriptor (Tn6 k).2.2.1 = some (ty6 k) := by decide +kernel
def Tn7 : u_T := fun k => match k with
  | _ => ("ChildTrains$OrderReader", "at", "I", false)
def ty7 : Nat → FieldType := fun k => match k with
  | _ => .int
theorem nm7 : ∀ a, a < 1 → ∀ b, b < 1 → a ≠ b → (Tn7 a).2.1 ≠ (Tn7 b).2.1 := by decide +kernel
theorem ty7_ok : ∀ k, k < 1 → parseFieldDescriptor (Tn7 k).2.2.1 = some (ty7 k) := by decide +kernel
def Tn8 : u_T := fun k => match k with
  | 0 => ("ChildTrains$Paths", "people", "[I", true)
  | 1 => ("ChildTrains$Paths", "fewest", "[I", true)
  | 2 => ("ChildTrains$Paths", "gone", "I", false)
  | _ => ("ChildTrains$Paths", "used", "I", false)
def ty8 : Nat → FieldType := fun k => match k with
  | 0 => .array (.int)
  | 1 => .array (.int)
  | 2 => .int
  | _ => .int
theorem nm8 : ∀ a, a < 4 → ∀ b, b < 4 → a ≠ b → (Tn8 a).2.1 ≠ (Tn8 b).2.1 := by decide +kernel
theorem ty8_ok : ∀ k, k < 4 → parseFieldDescriptor (Tn8 k).2.2.1 = some (ty8 k) := by decide +kernel
def Tn9 : u_T := fun k => match k with
  | 0 => ("ChildTrains$Platform", "label", "[I", true)
  | 1 => ("ChildTrains$Platform", "comes", "[I", true)
  | 2 => ("ChildTrains$Platform", "trains", "[[I", true)
  | 3 => ("ChildTrains$Platform", "seatsLeft", "[I", true)
  | 4 => ("ChildTrains$Platform", "waiting", "[I", true)
  | 5 => ("ChildTrains$Platform", "trainOf", "[I", true)
  | 6 => ("ChildTrains$Platform", "minuteOf", "[I", true)
  | 7 => ("ChildTrains$Platform", "waits", "I", false)
  | 8 => ("ChildTrains$Platform", "way", "I", false)
  | _ => ("ChildTrains$Platform", "stale", "Z", false)
def ty9 : Nat → FieldType := fun k => match k with
  | 0 => .array (.int)
  | 1 => .array (.int)
  | 2 => .array (.array (.int))
  | 3 => .array (.int)
  | 4 => .array (.int)
  | 5 => .array (.int)
  | 6 => .array (.int)
  | 7 => .int
  | 8 => .int
  | _ => .boolean
theorem nm9 : ∀ a, a < 10 → ∀ b, b < 10 → a ≠ b → (Tn9 a).2.1 ≠ (Tn9 b).2.1 := by decide +kernel
theorem ty9_ok : ∀ k, k < 10 → parseFieldDescriptor (Tn9 k).2.2.1 = some (ty9 k) := by decide +kernel
def Tn10 : u_T := fun k => match k with
  | 0 => ("ChildTrains$Register", "who", "[I", true)
  | 1 => ("ChildTrains$Register", "from", "[I", true)
  | 2 => ("ChildTrains$Register", "into", "[I", true)
  | 3 => ("ChildTrains$Register", "day", "[I", true)
  | 4 => ("ChildTrains$Register", "now", "[I", true)
  | 5 => ("ChildTrains$Register", "leftOn", "[I", true)
  | 6 => ("ChildTrains$Register", "size", "I", false)
  | _ => ("ChildTrains$Register", "latest", "I", false)
def ty10 : Nat → FieldType := fun k => match k with
  | 0 => .array (.int)
  | 1 => .array (.int)
  | 2 => .array (.int)
  | 3 => .array (.int)
  | 4 => .array (.int)
  | 5 => .array (.int)
  | 6 => .int
  | _ => .int
theorem nm10 : ∀ a, a < 8 → ∀ b, b < 8 → a ≠ b → (Tn10 a).2.1 ≠ (Tn10 b).2.1 := by decide +kernel
theorem ty10_ok : ∀ k, k < 8 → parseFieldDescriptor (Tn10 k).2.2.1 = some (ty10 k) := by decide +kernel
def Tn11 : u_T := fun k => match k with
  | 0 => ("ChildTrainsModel", "thrown", "I", false)
  | 1 => ("ChildTrainsModel", "trace", "J", false)
  | 2 => ("ChildTrainsModel", "children", "I", false)
  | 3 => ("ChildTrainsModel", "sex", "[I", true)
  | 4 => ("ChildTrainsModel", "age", "[I", true)
  | 5 => ("ChildTrainsModel", "kin", "[I", true)
  | 6 => ("ChildTrainsModel", "party", "[I", true)
  | 7 => ("ChildTrainsModel", "named", "[I", true)
  | 8 => ("ChildTrainsModel", "letters", "[I", true)
  | 9 => ("ChildTrainsModel", "parties", "[I", true)
  | 10 => ("ChildTrainsModel", "train", "[I", true)
  | 11 => ("ChildTrainsModel", "way", "I", false)
  | 12 => ("ChildTrainsModel", "trainOf", "[I", true)
  | 13 => ("ChildTrainsModel", "minuteOf", "[I", true)
  | 14 => ("ChildTrainsModel", "taken", "[I", true)
  | 15 => ("ChildTrainsModel", "queue", "[I", true)
  | 16 => ("ChildTrainsModel", "houses", "I", false)
  | 17 => ("ChildTrainsModel", "house", "[I", true)
  | 18 => ("ChildTrainsModel", "given", "[I", true)
  | 19 => ("ChildTrainsModel", "draft", "[I", true)
  | 20 => ("ChildTrainsModel", "typed", "I", false)
  | 21 => ("ChildTrainsModel", "orders", "I", false)
  | 22 => ("ChildTrainsModel", "order", "[I", true)
  | 23 => ("ChildTrainsModel", "read", "[I", true)
  | 24 => ("ChildTrainsModel", "at", "I", false)
  | 25 => ("ChildTrainsModel", "number", "I", false)
  | 26 => ("ChildTrainsModel", "fault", "I", false)
  | 27 => ("ChildTrainsModel", "delay", "[I", true)
  | 28 => ("ChildTrainsModel", "events", "I", false)
  | 29 => ("ChildTrainsModel", "eventChild", "[I", true)
  | 30 => ("ChildTrainsModel", "eventHouse", "[I", true)
  | 31 => ("ChildTrainsModel", "eventDay", "[I", true)
  | 32 => ("ChildTrainsModel", "eventFrom", "[I", true)
  | 33 => ("ChildTrainsModel", "mine", "[I", true)
  | 34 => ("ChildTrainsModel", "there", "[I", true)
  | 35 => ("ChildTrainsModel", "room", "[I", true)
  | 36 => ("ChildTrainsModel", "fill", "[I", true)
  | 37 => ("ChildTrainsModel", "nextFill", "[I", true)
  | 38 => ("ChildTrainsModel", "ways", "[I", true)
  | 39 => ("ChildTrainsModel", "wayCost", "[I", true)
  | 40 => ("ChildTrainsModel", "sorts", "[I", true)
  | 41 => ("ChildTrainsModel", "isDone", "[Z", true)
  | 42 => ("ChildTrainsModel", "least", "[I", true)
  | 43 => ("ChildTrainsModel", "answers", "[I", true)
  | _ => ("ChildTrainsModel", "hours", "[I", true)
def ty11 : Nat → FieldType := fun k => match k with
  | 0 => .int
  | 1 => .long
  | 2 => .int
  | 3 => .array (.int)
  | 4 => .array (.int)
  | 5 => .array (.int)
  | 6 => .array (.int)
  | 7 => .array (.int)
  | 8 => .array (.int)
  | 9 => .array (.int)
  | 10 => .array (.int)
  | 11 => .int
  | 12 => .array (.int)
  | 13 => .array (.int)
  | 14 => .array (.int)
  | 15 => .array (.int)
  | 16 => .int
  | 17 => .array (.int)
  | 18 => .array (.int)
  | 19 => .array (.int)
  | 20 => .int
  | 21 => .int
  | 22 => .array (.int)
  | 23 => .array (.int)
  | 24 => .int
  | 25 => .int
  | 26 => .int
  | 27 => .array (.int)
  | 28 => .int
  | 29 => .array (.int)
  | 30 => .array (.int)
  | 31 => .array (.int)
  | 32 => .array (.int)
  | 33 => .array (.int)
  | 34 => .array (.int)
  | 35 => .array (.int)
  | 36 => .array (.int)
  | 37 => .array (.int)
  | 38 => .array (.int)
  | 39 => .array (.int)
  | 40 => .array (.int)
  | 41 => .array (.boolean)
  | 42 => .array (.int)
  | 43 => .array (.int)
  | _ => .array (.int)
theorem nm11 : ∀ a, a < 45 → ∀ b, b < 45 → a ≠ b → (Tn11 a).2.1 ≠ (Tn11 b).2.1 := by decide +kernel
theorem ty11_ok : ∀ k, k < 45 → parseFieldDescriptor (Tn11 k).2.2.1 = some (ty11 k) := by decide +kernel
def cls : List vw_C := [("ChildTrains", Tn0, 14), ("ChildTrains$Children", Tn1, 7), ("ChildTrains$Draft", Tn2, 2), ("ChildTrains$Hall", Tn3, 3), ("ChildTrains$Houses", Tn4, 6), ("ChildTrains$Lodging", Tn5, 10), ("ChildTrains$OrderBook", Tn6, 9), ("ChildTrains$OrderReader", Tn7, 1), ("ChildTrains$Paths", Tn8, 4), ("ChildTrains$Platform", Tn9, 10), ("ChildTrains$Register", Tn10, 8), ("ChildTrainsModel", Tn11, 45)]
def tyL : List (Nat → FieldType) := [ty0, ty1, ty2, ty3, ty4, ty5, ty6, ty7, ty8, ty9, ty10, ty11]
def shL : List (Nat × Nat × List Nat) := [(4, 0, [1, 8, 10, 24, 30, 33, 39, 40, 47, 50, 51, 58, 67, 0]), (4, 1, [2, 3, 4, 5, 6, 7, 0]), (0, 48, []), (0, 48, []), (0, 48, []), (0, 48, []), (1, 48, []), (0, 48, []), (4, 2, [9, 0]), (0, 600, []), (4, 9, [11, 12, 13, 20, 21, 22, 23, 0, 0, 0]), (0, 8, []), (0, 8, []), (3, 6, [14]), (0, 5, []), (0, 5, []), (0, 5, []), (0, 5, []), (0, 5, []), (0, 5, []), (0, 6, []), (0, 48, []), (0, 48, []), (0, 48, []), (4, 4, [25, 26, 27, 28, 29, 0]), (0, 24, []), (0, 24, []), (0, 24, []), (0, 24, []), (0, 24, []), (4, 3, [31, 32, 0]), (0, 48, []), (0, 48, []), (4, 5, [34, 35, 36, 37, 38, 0, 0, 0, 0, 0]), (0, 12, []), (0, 6, []), (0, 6, []), (0, 4, []), (0, 4096, []), (4, 7, [0]), (4, 10, [41, 42, 43, 44, 45, 46, 0, 0]), (0, 80, []), (0, 80, []), (0, 80, []), (0, 80, []), (0, 48, []), (0, 80, []), (4, 8, [48, 49, 0, 0]), (0, 256, []), (0, 256, []), (0, 8, []), (3, 6, [52]), (0, 3, []), (0, 3, []), (0, 3, []), (0, 3, []), (0, 3, []), (0, 3, []), (4, 6, [59, 60, 61, 62, 63, 64, 65, 66, 0]), (0, 30, []), (0, 30, []), (0, 30, []), (0, 30, []), (0, 30, []), (0, 180, []), (0, 180, []), (2, 180, []), (4, 6, [68, 69, 70, 71, 72, 73, 74, 75, 0]), (0, 30, []), (0, 30, []), (0, 30, []), (0, 30, []), (0, 30, []), (0, 180, []), (0, 180, []), (2, 180, []), (4, 11, [0, 0, 0, 77, 78, 79, 80, 81, 82, 83, 84, 0, 85, 86, 87, 88, 0, 89, 90, 91, 0, 0, 92, 93, 0, 0, 0, 94, 0, 95, 96, 97, 98, 99, 100, 101, 102, 103, 104, 105, 106, 107, 108, 109, 110]), (0, 48, []), (0, 48, []), (0, 48, []), (0, 48, []), (0, 48, []), (0, 384, []), (0, 16, []), (0, 30, []), (0, 48, []), (0, 48, []), (0, 6, []), (0, 48, []), (0, 120, []), (0, 48, []), (0, 600, []), (0, 750, []), (0, 750, []), (0, 18, []), (0, 80, []), (0, 80, []), (0, 80, []), (0, 80, []), (0, 48, []), (0, 24, []), (0, 6, []), (0, 15625, []), (0, 15625, []), (0, 15625, []), (0, 15625, []), (0, 4, []), (2, 48, []), (0, 16384, []), (0, 9, []), (0, 9, [])]
def ctL : List (List Nat) := [[3, 3, 3, 3, 3, 3, 3, 3, 3, 3, 3, 3, 3, 1], [3, 3, 3, 3, 3, 3, 0], [3, 0], [3, 3, 0], [3, 3, 3, 3, 3, 0], [3, 3, 3, 3, 3, 0, 0, 0, 0, 0], [3, 3, 3, 3, 3, 3, 3, 3, 0], [0], [3, 3, 0, 0], [3, 3, 3, 3, 3, 3, 3, 0, 0, 2], [3, 3, 3, 3, 3, 3, 0, 0], [0, 1, 0, 3, 3, 3, 3, 3, 3, 3, 3, 0, 3, 3, 3, 3, 0, 3, 3, 3, 0, 0, 3, 3, 0, 0, 0, 3, 0, 3, 3, 3, 3, 3, 3, 3, 3, 3, 3, 3, 3, 3, 3, 3, 3]]
def tbL : List (List Int) := [[0, 0, 0, 1, 0], [300, 300, 48, 4, 5], [109, 99, 112], [58], [45, 61, 43], [108, 118, 102], [33], [115, 97, 107, 104, 119], [60, 62], [59], [1, 15, 0, 3, 5]]
def ownL : List String := ["ChildTrains", "ChildTrains$Children", "ChildTrains$Draft", "ChildTrains$Hall", "ChildTrains$Houses", "ChildTrains$Lodging", "ChildTrains$OrderBook", "ChildTrains$OrderReader", "ChildTrains$Paths", "ChildTrains$Platform", "ChildTrains$Register", "ChildTrainsModel", "java/util/Arrays", "java/lang/Math", "java/lang/Integer", "java/lang/String", "java/lang/StringLatin1", "jdk/internal/util/Preconditions", "ChildTrainsLaw"]
/-- own, name, descriptor, bytes, locals, answer, static, how many arguments (the receiver too), places of its words: code, initialized, static or instanceMethod, selects -/
abbrev Mrow : Type := Nat × String × String × Unit × Nat × Option FieldType × Bool × Nat × List Nat
def mtL0 : List Mrow := [(0, "child", "(IIII)I", (), 5, some .int, false, 5, [449, 58, 447, 448]),
  (0, "type", "(JI)I", (), 4, some .int, false, 3, [467, 58, 465, 466]),
  (0, "clear", "()I", (), 1, some .int, false, 1, [475, 58, 473, 474]),
  (0, "name", "(I)I", (), 2, some .int, false, 2, [483, 58, 481, 482]),
  (0, "party", "(III)I", (), 6, some .int, false, 4, [500, 58, 498, 499]),
  (0, "train", "(III)I", (), 5, some .int, false, 4, [504, 58, 502, 503]),
  (0, "wayOf", "(I)I", (), 3, some .int, false, 2, [515, 58, 513, 514]),
  (0, "boarded", "(II)I", (), 3, some .int, false, 3, [519, 58, 517, 518]),
  (0, "mixed", "(I)I", (), 3, some .int, false, 2, [547, 58, 545, 546]),
  (0, "load", "(II)I", (), 3, some .int, false, 3, [563, 58, 561, 562]),
  (0, "house", "(IIIII)I", (), 6, some .int, false, 6, [568, 58, 566, 567]),
  (0, "pay", "(III)I", (), 4, some .int, false, 4, [579, 58, 577, 578]),
  (0, "hall", "(II)I", (), 3, some .int, false, 3, [592, 58, 590, 591]),
  (0, "chosen", "(I)I", (), 3, some .int, false, 2, [646, 58, 644, 645]),
  (0, "best", "(II)I", (), 3, some .int, false, 3, [650, 58, 648, 649]),
  (0, "orders", "()I", (), 3, some .int, false, 1, [705, 58, 703, 704]),
  (0, "delay", "(III)I", (), 5, some .int, false, 4, [798, 58, 796, 797]),
  (0, "ruling", "(IIII)I", (), 5, some .int, false, 5, [802, 58, 800, 801]),
  (0, "why", "(IIII)I", (), 5, some .int, false, 5, [841, 58, 839, 840]),
  (0, "lodge", "(III)I", (), 5, some .int, false, 4, [845, 58, 843, 844]),
  (0, "fetch", "(II)I", (), 4, some .int, false, 3, [859, 58, 857, 858]),
  (0, "where", "(II)I", (), 3, some .int, false, 3, [863, 58, 861, 862]),
  (0, "paid", "(II)I", (), 4, some .int, false, 3, [871, 58, 869, 870]),
  (0, "free", "(II)I", (), 3, some .int, false, 3, [879, 58, 877, 878]),
  (0, "trouble", "(I)I", (), 2, some .int, false, 2, [883, 58, 881, 882])]
def mtL1 : List Mrow := [(0, "restless", "()I", (), 3, some .int, false, 1, [891, 58, 889, 890]),
  (0, "city", "(I)I", (), 4, some .int, false, 2, [899, 58, 897, 898]),
  (0, "torn", "(JII)I", (), 8, some .int, false, 4, [903, 58, 901, 902]),
  (0, "paths", "(I)I", (), 2, some .int, false, 2, [929, 58, 927, 928]),
  (0, "lessons", "(IIIIII)I", (), 8, some .int, false, 7, [955, 58, 953, 954]),
  (0, "count", "(I)I", (), 2, some .int, false, 2, [960, 58, 958, 959]),
  (0, "trace", "()J", (), 1, some .long, false, 1, [964, 58, 962, 963]),
  (0, "within", "(III)Z", (), 3, some .boolean, true, 3, [452, 58, 451, 0]),
  (0, "isParty", "(I)Z", (), 1, some .boolean, true, 1, [455, 58, 454, 0]),
  (0, "boardAnew", "()V", (), 1, none, false, 1, [459, 58, 458, 0]),
  (0, "isChild", "(I)Z", (), 2, some .boolean, false, 2, [487, 58, 486, 1]),
  (0, "isTrain", "(I)Z", (), 1, some .boolean, true, 1, [507, 58, 506, 0]),
  (0, "isVillage", "(I)Z", (), 1, some .boolean, true, 1, [571, 58, 570, 0]),
  (0, "bodiesAsked", "(I)J", (), 1, some .long, true, 1, [582, 58, 581, 0]),
  (0, "payFor", "(III)I", (), 4, some .int, true, 3, [588, 58, 587, 0]),
  (0, "assemble", "(I)V", (), 2, none, false, 2, [596, 58, 595, 5]),
  (0, "canRule", "(IIII)Z", (), 5, some .boolean, false, 5, [806, 58, 805, 19]),
  (0, "isHouse", "(I)Z", (), 2, some .boolean, false, 2, [810, 58, 809, 20]),
  (0, "isDay", "(I)Z", (), 1, some .boolean, true, 1, [813, 58, 812, 0]),
  (0, "rulingOf", "(IIII)I", (), 6, some .int, false, 5, [817, 58, 816, 21]),
  (0, "rulerOf", "(IIII)I", (), 5, some .int, false, 5, [821, 58, 820, 22]),
  (0, "isTorn", "(JI)Z", (), 5, some .boolean, true, 2, [906, 58, 905, 0]),
  (0, "nextQuestion", "(JI)I", (), 8, some .int, false, 3, [914, 58, 913, 25]),
  (0, "mostAlike", "(JII)I", (), 8, some .int, false, 4, [918, 58, 917, 26]),
  (1, "add", "(IIII)I", (), 5, some .int, false, 5, [463, 59, 461, 462])]
def mtL2 : List Mrow := [(1, "sortOf", "(I)I", (), 2, some .int, false, 2, [614, 59, 612, 613]),
  (1, "isBig", "(I)Z", (), 2, some .boolean, false, 2, [618, 59, 616, 617]),
  (1, "areKin", "(II)Z", (), 3, some .boolean, false, 3, [634, 59, 632, 633]),
  (1, "hasKin", "(I)Z", (), 2, some .boolean, false, 2, [837, 59, 835, 836]),
  (1, "fits", "(IJI)Z", (), 8, some .boolean, false, 4, [910, 59, 908, 909]),
  (1, "answer", "(II)I", (), 3, some .int, false, 3, [923, 59, 921, 922]),
  (2, "append", "(JI)V", (), 5, none, false, 3, [471, 60, 469, 470]),
  (2, "empty", "()I", (), 2, some .int, false, 1, [479, 60, 477, 478]),
  (2, "isName", "()Z", (), 2, some .boolean, false, 1, [491, 60, 489, 490]),
  (2, "packed", "()J", (), 4, some .long, false, 1, [496, 60, 494, 495]),
  (2, "at", "(I)I", (), 2, some .int, false, 2, [732, 60, 730, 731]),
  (3, "gather", "(LChildTrains$Children;LChildTrains$Platform;I)V", (), 5, none, false, 4, [600, 63, 598, 599]),
  (3, "choose", "(LChildTrains$Children;LChildTrains$Houses;I)V", (), 7, none, false, 4, [606, 63, 604, 605]),
  (3, "favourite", "(LChildTrains$Children;LChildTrains$Houses;I)I", (), 9, some .int, false, 4, [610, 63, 609, 6]),
  (3, "rankOf", "(LChildTrains$Children;III)I", (), 5, some .int, false, 5, [626, 63, 625, 7]),
  (3, "hasKinIn", "(LChildTrains$Children;II)Z", (), 5, some .boolean, false, 4, [630, 63, 629, 8]),
  (3, "countOver", "()I", (), 3, some .int, false, 1, [638, 63, 636, 637]),
  (3, "countParted", "(LChildTrains$Children;)I", (), 6, some .int, false, 2, [642, 63, 640, 641]),
  (4, "add", "(IIIII)I", (), 6, some .int, false, 6, [575, 62, 573, 574]),
  (4, "takesSort", "(II)Z", (), 3, some .boolean, false, 3, [622, 62, 620, 621]),
  (4, "countIn", "(I)I", (), 4, some .int, false, 2, [654, 62, 652, 653]),
  (4, "bedsIn", "(I)I", (), 4, some .int, false, 2, [946, 62, 944, 945]),
  (5, "solve", "(LChildTrains$Children;LChildTrains$Houses;LChildTrains$Hall;I)V", (), 7, none, false, 5, [658, 64, 656, 657]),
  (5, "noteChildren", "(LChildTrains$Children;LChildTrains$Hall;)V", (), 5, none, false, 3, [665, 64, 664, 9]),
  (5, "noteHouses", "(LChildTrains$Houses;I)V", (), 5, none, false, 3, [672, 64, 671, 10])]
def mtL3 : List Mrow := [(5, "mostLodged", "()I", (), 6, some .int, false, 1, [677, 64, 676, 11]),
  (5, "countPairs", "()I", (), 3, some .int, false, 1, [687, 64, 686, 12]),
  (5, "mostTogether", "(II)I", (), 9, some .int, false, 3, [691, 64, 690, 13]),
  (5, "keptWith", "(LChildTrains$Lodging;IIIII)I", (), 12, some .int, true, 6, [694, 64, 693, 0]),
  (6, "ruler", "(ILChildTrains$Children;ILChildTrains$Houses;II[I)I", (), 10, some .int, false, 8, [825, 69, 823, 824]),
  (6, "holds", "(ILChildTrains$Children;ILChildTrains$Houses;I)Z", (), 8, some .boolean, false, 6, [829, 69, 828, 23]),
  (6, "isSo", "(ILChildTrains$Children;ILChildTrains$Houses;I)Z", (), 7, some .boolean, false, 6, [833, 69, 832, 24]),
  (7, "read", "(LChildTrains$Draft;LChildTrains$OrderBook;)I", (), 4, some .int, false, 3, [709, 65, 707, 708]),
  (7, "readOrder", "(LChildTrains$Draft;LChildTrains$OrderBook;)Z", (), 5, some .boolean, false, 3, [713, 65, 712, 14]),
  (7, "readSign", "(LChildTrains$Draft;Ljava/lang/String;)I", (), 4, some .int, false, 3, [718, 65, 717, 15]),
  (7, "readNumber", "(LChildTrains$Draft;I)I", (), 6, some .int, false, 3, [774, 65, 773, 16]),
  (7, "readConds", "(LChildTrains$Draft;LChildTrains$OrderBook;I)Z", (), 5, some .boolean, false, 4, [783, 65, 782, 17]),
  (7, "readCond", "(LChildTrains$Draft;LChildTrains$OrderBook;I)Z", (), 6, some .boolean, false, 4, [787, 65, 786, 18]),
  (0, "isChild", "(I)Z", (), 2, some .boolean, false, 2, [487, 58, 486, 1]),
  (0, "isChild", "(I)Z", (), 2, some .boolean, false, 2, [487, 58, 486, 1]),
  (8, "solve", "(LChildTrains$Children;LChildTrains$Platform;LChildTrains$Houses;)V", (), 5, none, false, 4, [933, 68, 931, 932]),
  (8, "countPeople", "(LChildTrains$Children;)V", (), 4, none, false, 2, [937, 68, 936, 27]),
  (8, "roomTo", "(LChildTrains$Platform;LChildTrains$Houses;I)I", (), 5, some .int, true, 3, [941, 68, 940, 0]),
  (8, "bring", "(I)V", (), 6, none, false, 2, [951, 68, 950, 28]),
  (9, "settle", "(LChildTrains$Children;)V", (), 4, none, false, 2, [523, 61, 521, 522]),
  (9, "arrive", "(LChildTrains$Children;I)V", (), 5, none, false, 3, [528, 61, 527, 2]),
  (9, "fill", "(LChildTrains$Children;II)V", (), 8, none, false, 4, [532, 61, 531, 3]),
  (9, "firstLabelled", "(LChildTrains$Children;I)I", (), 4, some .int, false, 3, [536, 61, 535, 4]),
  (9, "villageOf", "(I)I", (), 2, some .int, false, 2, [543, 61, 541, 542]),
  (9, "carried", "(LChildTrains$Children;I)I", (), 5, some .int, false, 3, [551, 61, 549, 550])]
def mtL4 : List Mrow := [(9, "carriedOf", "(LChildTrains$Children;II)I", (), 6, some .int, false, 4, [555, 61, 553, 554]),
  (9, "mislaid", "(LChildTrains$Children;)I", (), 4, some .int, false, 2, [559, 61, 557, 558]),
  (10, "inside", "(II)I", (), 5, some .int, false, 3, [849, 66, 847, 848]),
  (10, "tell", "(III)I", (), 4, some .int, false, 4, [855, 66, 853, 854]),
  (10, "placeOf", "(II)I", (), 5, some .int, false, 3, [867, 66, 865, 866]),
  (10, "smallInside", "(LChildTrains$Children;II)I", (), 6, some .int, false, 4, [875, 66, 873, 874]),
  (10, "isTroubled", "(I)Z", (), 4, some .boolean, false, 2, [887, 66, 885, 886]),
  (10, "movesOf", "(I)I", (), 4, some .int, false, 2, [895, 66, 893, 894]),
  (11, "child", "(IIII)I", (), 5, some .int, false, 5, [1110, 70, 1108, 1109]),
  (11, "type", "(JI)I", (), 5, some .int, false, 3, [1117, 70, 1115, 1116]),
  (11, "clear", "()I", (), 2, some .int, false, 1, [1122, 70, 1120, 1121]),
  (11, "name", "(I)I", (), 4, some .int, false, 2, [1126, 70, 1124, 1125]),
  (11, "party", "(III)I", (), 5, some .int, false, 4, [1134, 70, 1132, 1133]),
  (11, "train", "(III)I", (), 5, some .int, false, 4, [1138, 70, 1136, 1137]),
  (11, "wayOf", "(I)I", (), 3, some .int, false, 2, [1142, 70, 1140, 1141]),
  (11, "boarded", "(II)I", (), 3, some .int, false, 3, [1146, 70, 1144, 1145]),
  (11, "mixed", "(I)I", (), 5, some .int, false, 2, [1162, 70, 1160, 1161]),
  (11, "load", "(II)I", (), 5, some .int, false, 3, [1166, 70, 1164, 1165]),
  (11, "house", "(IIIII)I", (), 7, some .int, false, 6, [1170, 70, 1168, 1169]),
  (11, "pay", "(III)I", (), 4, some .int, false, 4, [1177, 70, 1175, 1176]),
  (11, "hall", "(II)I", (), 6, some .int, false, 3, [1187, 70, 1185, 1186]),
  (11, "chosen", "(I)I", (), 2, some .int, false, 2, [1215, 70, 1213, 1214]),
  (11, "best", "(II)I", (), 9, some .int, false, 3, [1219, 70, 1217, 1218]),
  (11, "orders", "()I", (), 3, some .int, false, 1, [1235, 70, 1233, 1234]),
  (11, "delay", "(III)I", (), 5, some .int, false, 4, [1263, 70, 1261, 1262])]
def mtL5 : List Mrow := [(11, "ruling", "(IIII)I", (), 5, some .int, false, 5, [1267, 70, 1265, 1266]),
  (11, "why", "(IIII)I", (), 5, some .int, false, 5, [1290, 70, 1288, 1289]),
  (11, "lodge", "(III)I", (), 5, some .int, false, 4, [1294, 70, 1292, 1293]),
  (11, "fetch", "(II)I", (), 4, some .int, false, 3, [1314, 70, 1312, 1313]),
  (11, "where", "(II)I", (), 3, some .int, false, 3, [1318, 70, 1316, 1317]),
  (11, "paid", "(II)I", (), 7, some .int, false, 3, [1322, 70, 1320, 1321]),
  (11, "free", "(II)I", (), 3, some .int, false, 3, [1326, 70, 1324, 1325]),
  (11, "trouble", "(I)I", (), 5, some .int, false, 2, [1330, 70, 1328, 1329]),
  (11, "restless", "()I", (), 5, some .int, false, 1, [1334, 70, 1332, 1333]),
  (11, "city", "(I)I", (), 2, some .int, false, 2, [1338, 70, 1336, 1337]),
  (11, "torn", "(JII)I", (), 14, some .int, false, 4, [1342, 70, 1340, 1341]),
  (11, "paths", "(I)I", (), 11, some .int, false, 2, [1346, 70, 1344, 1345]),
  (11, "lessons", "(IIIIII)I", (), 14, some .int, false, 7, [1358, 70, 1356, 1357]),
  (11, "count", "(I)I", (), 2, some .int, false, 2, [1362, 70, 1360, 1361]),
  (11, "trace", "()J", (), 1, some .long, false, 1, [1366, 70, 1364, 1365]),
  (11, "in", "(III)Z", (), 3, some .boolean, true, 3, [1113, 70, 1112, 0]),
  (11, "isChild", "(I)Z", (), 2, some .boolean, false, 2, [1130, 70, 1129, 29]),
  (11, "boards", "()V", (), 9, none, false, 1, [1150, 70, 1149, 30]),
  (11, "labelOf", "(I)I", (), 2, some .int, false, 2, [1154, 70, 1153, 31]),
  (11, "villageOf", "(I)I", (), 2, some .int, false, 2, [1158, 70, 1157, 32]),
  (11, "isVillage", "(I)Z", (), 1, some .boolean, true, 1, [1173, 70, 1172, 0]),
  (11, "payOf", "(III)I", (), 4, some .int, true, 3, [1183, 70, 1182, 0]),
  (11, "chooses", "(I)V", (), 6, none, false, 2, [1191, 70, 1190, 33]),
  (11, "isTaken", "(II)Z", (), 3, some .boolean, false, 3, [1195, 70, 1194, 34]),
  (11, "sortOf", "(I)I", (), 2, some .int, false, 2, [1199, 70, 1198, 35])]
def mtL6 : List Mrow := [(11, "isRather", "(III)Z", (), 5, some .boolean, false, 4, [1203, 70, 1202, 36]),
  (11, "hasKin", "(II)Z", (), 5, some .boolean, false, 3, [1207, 70, 1206, 37]),
  (11, "isKin", "(II)Z", (), 3, some .boolean, false, 3, [1211, 70, 1210, 38]),
  (11, "goes", "(III)V", (), 11, none, false, 4, [1224, 70, 1223, 39]),
  (11, "digit", "(II)I", (), 4, some .int, true, 2, [1227, 70, 1226, 0]),
  (11, "can", "(II)Z", (), 8, some .boolean, false, 3, [1231, 70, 1230, 40]),
  (11, "readsOrder", "(I)Z", (), 4, some .boolean, false, 2, [1239, 70, 1238, 41]),
  (11, "byteAt", "()I", (), 1, some .int, false, 1, [1243, 70, 1242, 42]),
  (11, "fails", "()Z", (), 1, some .boolean, false, 1, [1247, 70, 1246, 43]),
  (11, "reads", "(I)Z", (), 4, some .boolean, false, 2, [1251, 70, 1250, 44]),
  (11, "sign", "(I)Z", (), 2, some .boolean, false, 2, [1255, 70, 1254, 45]),
  (11, "readsCond", "(I)Z", (), 5, some .boolean, false, 2, [1259, 70, 1258, 46]),
  (11, "isHouse", "(I)Z", (), 2, some .boolean, false, 2, [1271, 70, 1270, 47]),
  (11, "isDay", "(I)Z", (), 1, some .boolean, true, 1, [1274, 70, 1273, 0]),
  (11, "rulingOf", "(IIII)I", (), 6, some .int, false, 5, [1278, 70, 1277, 48]),
  (11, "rules", "(IIII)I", (), 11, some .int, false, 5, [1282, 70, 1281, 49]),
  (11, "isSo", "(III)Z", (), 6, some .boolean, false, 4, [1286, 70, 1285, 50]),
  (11, "whereOf", "(II)I", (), 5, some .int, false, 3, [1298, 70, 1297, 51]),
  (11, "isLate", "(I)Z", (), 2, some .boolean, false, 2, [1302, 70, 1301, 52]),
  (11, "inside", "(II)I", (), 5, some .int, false, 3, [1306, 70, 1305, 53]),
  (11, "tells", "(IIII)V", (), 5, none, false, 5, [1310, 70, 1309, 54]),
  (11, "sizeOf", "(I)I", (), 4, some .int, false, 2, [1350, 70, 1349, 55]),
  (11, "isFilled", "(I)Z", (), 4, some .boolean, false, 2, [1354, 70, 1353, 56]),
  (12, "fill", "([II)V", (), 4, none, true, 2, [306, 67, 305, 0]),
  (14, "bitCount", "(I)I", (), 1, some .int, true, 1, [680, 73, 679, 0])]
def mtL7 : List Mrow := [(14, "numberOfTrailingZeros", "(I)I", (), 2, some .int, true, 1, [697, 73, 696, 0]),
  (15, "length", "()I", (), 1, some .int, false, 1, [722, 74, 720, 721]),
  (15, "coder", "()B", (), 1, some .byte, false, 1, [726, 74, 724, 725]),
  (15, "charAt", "(I)C", (), 2, some .char, false, 2, [736, 74, 734, 735]),
  (15, "isLatin1", "()Z", (), 1, some .boolean, false, 1, [740, 74, 738, 739]),
  (16, "charAt", "([BI)C", (), 2, some .char, true, 2, [743, 75, 742, 0]),
  (15, "checkIndex", "(II)V", (), 2, none, true, 2, [746, 74, 745, 0]),
  (17, "checkIndex", "(IILjava/util/function/BiFunction;)I", (), 3, some .int, true, 3, [751, 76, 750, 0])]
def mtL : List Mrow := mtL0 ++ (mtL1 ++ (mtL2 ++ (mtL3 ++ (mtL4 ++ (mtL5 ++ (mtL6 ++ (mtL7)))))))
/-- own, place in the pool, kind of object, field, nest or not, place of the word -/
def flL : List (Nat × Nat × Nat × Nat × Nat × Nat) := [(1, 9, 1, 0, 0, 92), (6, 48, 1, 0, 1, 93), (1, 15, 1, 1, 0, 94), (6, 53, 1, 1, 1, 95), (10, 43, 1, 1, 1, 96), (3, 64, 1, 1, 1, 97), (1, 18, 1, 2, 0, 98), (1, 21, 1, 3, 0, 99), (8, 48, 1, 3, 1, 100), (9, 64, 1, 3, 1, 101), (1, 24, 1, 4, 0, 102), (0, 132, 1, 4, 1, 103), (1, 28, 1, 5, 0, 104), (0, 140, 1, 5, 1, 105), (1, 31, 1, 6, 0, 106), (3, 28, 1, 6, 1, 107), (0, 103, 1, 6, 1, 108), (8, 43, 1, 6, 1, 109), (9, 59, 1, 6, 1, 110), (2, 9, 2, 0, 0, 134), (2, 15, 2, 1, 0, 135), (7, 20, 2, 1, 1, 136), (0, 114, 2, 1, 1, 137), (9, 9, 9, 0, 0, 151), (0, 143, 9, 0, 1, 152), (9, 15, 9, 1, 0, 153), (0, 146, 9, 1, 1, 154), (9, 20, 9, 2, 0, 155), (8, 51, 9, 2, 1, 156), (0, 158, 9, 2, 1, 157), (9, 23, 9, 3, 0, 158), (9, 26, 9, 4, 0, 159), (9, 29, 9, 5, 0, 160), (0, 168, 9, 5, 1, 161), (9, 32, 9, 6, 0, 162), (0, 171, 9, 6, 1, 163), (9, 35, 9, 7, 0, 164), (9, 39, 9, 8, 0, 165), (0, 161, 9, 8, 1, 166), (9, 42, 9, 9, 0, 167), (0, 334, 9, 9, 1, 168), (4, 9, 4, 0, 0, 196), (3, 40, 4, 0, 1, 197), (5, 94, 4, 0, 1, 198), (6, 65, 4, 0, 1, 199), (0, 328, 4, 0, 1, 200), (4, 15, 4, 1, 0, 201), (6, 60, 4, 1, 1, 202), (0, 286, 4, 1, 1, 203), (4, 18, 4, 2, 0, 204), (3, 43, 4, 2, 1, 205), (5, 96, 4, 2, 1, 206), (0, 270, 4, 2, 1, 207), (4, 21, 4, 3, 0, 208), (4, 24, 4, 4, 0, 209), (3, 57, 4, 4, 1, 210), (4, 27, 4, 5, 0, 211), (3, 37, 4, 5, 1, 212), (5, 91, 4, 5, 1, 213), (0, 193, 4, 5, 1, 214), (3, 9, 3, 0, 0, 234), (5, 78, 3, 0, 1, 235), (3, 15, 3, 1, 0, 236), (0, 223, 3, 1, 1, 237), (3, 18, 3, 2, 0, 238), (5, 43, 3, 2, 1, 239), (0, 212, 3, 2, 1, 240), (5, 9, 5, 0, 0, 254), (5, 15, 5, 1, 0, 255), (5, 18, 5, 2, 0, 256), (5, 21, 5, 3, 0, 257), (5, 24, 5, 4, 0, 258), (5, 27, 5, 5, 0, 259), (5, 31, 5, 6, 0, 260), (5, 34, 5, 7, 0, 261), (0, 194, 5, 7, 1, 262), (5, 37, 5, 8, 0, 263), (0, 233, 5, 8, 1, 264), (5, 40, 5, 9, 0, 265), (0, 236, 5, 9, 1, 266), (7, 9, 7, 0, 0, 294), (10, 9, 10, 0, 0, 307), (10, 15, 10, 1, 0, 308), (10, 18, 10, 2, 0, 309), (10, 21, 10, 3, 0, 310), (10, 24, 10, 4, 0, 311), (0, 260, 10, 4, 1, 312), (10, 27, 10, 5, 0, 313), (10, 30, 10, 6, 0, 314), (0, 324, 10, 6, 1, 315), (10, 34, 10, 7, 0, 316), (0, 263, 10, 7, 1, 317), (8, 11, 8, 0, 0, 341), (8, 15, 8, 1, 0, 342), (8, 18, 8, 2, 0, 343), (0, 313, 8, 2, 1, 344), (8, 22, 8, 3, 0, 345), (0, 316, 8, 3, 1, 346), (6, 9, 6, 0, 0, 363), (7, 29, 6, 0, 1, 364), (6, 15, 6, 1, 0, 365), (7, 39, 6, 1, 1, 366), (6, 18, 6, 2, 0, 367), (7, 50, 6, 2, 1, 368), (0, 325, 6, 2, 1, 369), (6, 21, 6, 3, 0, 370), (7, 53, 6, 3, 1, 371), (6, 24, 6, 4, 0, 372), (7, 62, 6, 4, 1, 373), (6, 27, 6, 5, 0, 374), (7, 83, 6, 5, 1, 375), (6, 30, 6, 6, 0, 376), (7, 86, 6, 6, 1, 377), (6, 33, 6, 7, 0, 378), (7, 73, 6, 7, 1, 379), (6, 37, 6, 8, 0, 380), (7, 15, 6, 8, 1, 381), (0, 243, 6, 8, 1, 382), (0, 10, 0, 0, 0, 403), (0, 19, 0, 1, 0, 404), (0, 26, 0, 2, 0, 405), (0, 33, 0, 3, 0, 406), (0, 40, 0, 4, 0, 407), (0, 47, 0, 5, 0, 408), (0, 54, 0, 6, 0, 409), (0, 61, 0, 7, 0, 410), (0, 68, 0, 8, 0, 411), (0, 72, 0, 9, 0, 412), (0, 78, 0, 10, 0, 413), (0, 84, 0, 11, 0, 414), (0, 88, 0, 12, 0, 415), (0, 91, 0, 13, 0, 416), (11, 113, 11, 0, 0, 971), (11, 152, 11, 1, 0, 972), (11, 117, 11, 2, 0, 973), (11, 7, 11, 3, 0, 974), (11, 13, 11, 4, 0, 975), (11, 16, 11, 5, 0, 976), (11, 19, 11, 6, 0, 977), (11, 22, 11, 7, 0, 978), (11, 25, 11, 8, 0, 979), (11, 28, 11, 9, 0, 980), (11, 31, 11, 10, 0, 981), (11, 136, 11, 11, 0, 982), (11, 34, 11, 12, 0, 983), (11, 37, 11, 13, 0, 984), (11, 40, 11, 14, 0, 985), (11, 43, 11, 15, 0, 986), (11, 124, 11, 16, 0, 987), (11, 46, 11, 17, 0, 988), (11, 49, 11, 18, 0, 989), (11, 52, 11, 19, 0, 990), (11, 127, 11, 20, 0, 991), (11, 227, 11, 21, 0, 992), (11, 55, 11, 22, 0, 993), (11, 58, 11, 23, 0, 994), (11, 198, 11, 24, 0, 995), (11, 212, 11, 25, 0, 996), (11, 201, 11, 26, 0, 997), (11, 61, 11, 27, 0, 998), (11, 246, 11, 28, 0, 999), (11, 64, 11, 29, 0, 1000), (11, 67, 11, 30, 0, 1001), (11, 70, 11, 31, 0, 1002), (11, 73, 11, 32, 0, 1003), (11, 76, 11, 33, 0, 1004), (11, 79, 11, 34, 0, 1005), (11, 82, 11, 35, 0, 1006), (11, 85, 11, 36, 0, 1007), (11, 88, 11, 37, 0, 1008), (11, 91, 11, 38, 0, 1009), (11, 94, 11, 39, 0, 1010), (11, 97, 11, 40, 0, 1011), (11, 100, 11, 41, 0, 1012), (11, 104, 11, 42, 0, 1013), (11, 107, 11, 43, 0, 1014), (11, 110, 11, 44, 0, 1015), (15, 9, 100, 0, 0, 1368), (15, 15, 100, 1, 0, 1369)]
/-- own, place in the pool, method, nest or not, place of the word -/
def mlL : List (Nat × Nat × Nat × Nat × Nat) := [(10, 37, 173, 0, 304), (18, 13, 0, 0, 446), (0, 95, 32, 0, 450), (0, 99, 33, 0, 453), (0, 107, 34, 0, 456), (0, 110, 49, 0, 460), (18, 20, 1, 0, 464), (0, 117, 56, 0, 468), (18, 25, 2, 0, 472), (0, 121, 57, 0, 476), (18, 30, 3, 0, 480), (0, 125, 35, 0, 484), (0, 128, 58, 0, 488), (2, 19, 32, 1, 492), (0, 136, 59, 0, 493), (18, 35, 4, 0, 497), (18, 40, 5, 0, 501), (0, 149, 36, 0, 505), (18, 44, 6, 0, 512), (18, 48, 7, 0, 516), (0, 164, 94, 0, 520), (9, 46, 173, 0, 524), (9, 52, 95, 0, 525), (9, 56, 96, 0, 529), (9, 67, 97, 0, 533), (0, 174, 98, 0, 540), (18, 53, 8, 0, 544), (0, 178, 99, 0, 548), (9, 77, 100, 0, 552), (0, 182, 101, 0, 556), (18, 57, 9, 0, 560), (0, 186, 100, 0, 564), (18, 61, 10, 0, 565), (0, 190, 37, 0, 569), (0, 197, 68, 0, 572), (18, 66, 11, 0, 576), (0, 200, 38, 0, 580), (0, 204, 39, 0, 586), (18, 70, 12, 0, 589), (0, 208, 40, 0, 593), (0, 338, 61, 0, 597), (3, 22, 173, 0, 601), (3, 31, 98, 0, 602), (0, 213, 62, 0, 603), (3, 46, 63, 0, 607), (3, 50, 50, 0, 611), (1, 35, 51, 0, 615), (3, 53, 69, 0, 619), (3, 60, 64, 0, 623), (3, 67, 65, 0, 627), (3, 71, 52, 0, 631), (0, 217, 66, 0, 635), (0, 220, 67, 0, 639), (18, 74, 13, 0, 643), (18, 78, 14, 0, 647), (0, 226, 70, 0, 651), (0, 229, 72, 0, 655), (5, 54, 73, 0, 662), (5, 72, 173, 0, 666), (5, 81, 50, 0, 667), (5, 87, 52, 0, 668), (5, 58, 74, 0, 669), (5, 99, 69, 0, 673), (5, 62, 75, 0, 674), (5, 102, 174, 0, 678), (5, 66, 76, 0, 684), (5, 69, 77, 0, 688), (5, 107, 78, 0, 692), (5, 114, 175, 0, 695), (18, 82, 15, 0, 702), (0, 239, 82, 0, 706), (7, 25, 83, 0, 710), (7, 35, 84, 0, 715), (7, 92, 176, 0, 719), (15, 335, 177, 0, 723), (7, 65, 60, 0, 729), (7, 97, 178, 0, 733), (15, 492, 179, 0, 737), (15, 495, 180, 0, 741), (16, 9, 181, 0, 744), (15, 1059, 182, 0, 749), (7, 42, 85, 0, 771), (7, 107, 32, 1, 776), (7, 58, 86, 0, 780), (7, 68, 87, 0, 784), (18, 86, 16, 0, 795), (18, 90, 17, 0, 799), (0, 244, 41, 0, 803), (0, 254, 42, 0, 807), (0, 257, 43, 0, 811), (0, 248, 44, 0, 814), (0, 251, 45, 0, 818), (0, 330, 79, 0, 822), (6, 41, 80, 0, 826), (6, 45, 81, 0, 830), (6, 56, 53, 0, 834), (18, 94, 18, 0, 838), (18, 98, 19, 0, 842), (0, 266, 102, 0, 846), (0, 273, 50, 0, 850), (0, 276, 69, 0, 851), (0, 280, 103, 0, 852), (18, 102, 20, 0, 856), (18, 106, 21, 0, 860), (0, 283, 104, 0, 864), (18, 110, 22, 0, 868), (0, 289, 105, 0, 872), (18, 114, 23, 0, 876), (18, 118, 24, 0, 880), (0, 292, 106, 0, 884), (18, 122, 25, 0, 888), (0, 295, 107, 0, 892), (18, 126, 26, 0, 896), (18, 130, 27, 0, 900), (0, 298, 46, 0, 904), (0, 302, 54, 0, 907), (0, 306, 47, 0, 911), (0, 348, 48, 0, 915), (0, 352, 173, 0, 919), (0, 358, 55, 0, 920), (1, 39, 53, 0, 924), (18, 135, 28, 0, 926), (0, 310, 90, 0, 930), (8, 25, 91, 0, 934), (8, 29, 173, 0, 938), (8, 35, 92, 0, 939), (8, 63, 71, 0, 943), (8, 39, 93, 0, 948), (18, 139, 29, 0, 952), (18, 144, 30, 0, 957), (18, 148, 31, 0, 961), (18, 17, 108, 0, 1107), (11, 120, 140, 0, 1111), (18, 24, 109, 0, 1114), (18, 29, 110, 0, 1119), (18, 34, 111, 0, 1123), (11, 132, 141, 0, 1127), (18, 39, 112, 0, 1131), (18, 43, 113, 0, 1135), (18, 47, 114, 0, 1139), (18, 52, 115, 0, 1143), (11, 143, 142, 0, 1147), (11, 139, 143, 0, 1151), (11, 146, 144, 0, 1155), (18, 56, 116, 0, 1159), (18, 60, 117, 0, 1163), (18, 65, 118, 0, 1167), (11, 149, 145, 0, 1171), (18, 69, 119, 0, 1174), (11, 162, 146, 0, 1181), (18, 73, 120, 0, 1184), (11, 182, 147, 0, 1188), (11, 176, 148, 0, 1192), (11, 166, 149, 0, 1196), (11, 179, 150, 0, 1200), (11, 169, 151, 0, 1204), (11, 173, 152, 0, 1208), (18, 77, 121, 0, 1212), (18, 81, 122, 0, 1216), (11, 194, 153, 0, 1221), (11, 186, 154, 0, 1225), (11, 190, 155, 0, 1228), (18, 85, 123, 0, 1232), (11, 224, 156, 0, 1236), (11, 204, 157, 0, 1240), (11, 208, 158, 0, 1244), (11, 215, 159, 0, 1248), (11, 218, 160, 0, 1252), (11, 221, 161, 0, 1256), (18, 89, 124, 0, 1260), (18, 93, 125, 0, 1264), (11, 237, 162, 0, 1268), (11, 240, 163, 0, 1272), (11, 243, 164, 0, 1275), (11, 233, 165, 0, 1279), (11, 230, 166, 0, 1283), (18, 97, 126, 0, 1287), (18, 101, 127, 0, 1291), (11, 249, 167, 0, 1295), (11, 252, 168, 0, 1299), (11, 255, 169, 0, 1303), (11, 258, 170, 0, 1307), (18, 105, 128, 0, 1311), (18, 109, 129, 0, 1315), (18, 113, 130, 0, 1319), (18, 117, 131, 0, 1323), (18, 121, 132, 0, 1327), (18, 125, 133, 0, 1331), (18, 129, 134, 0, 1335), (18, 134, 135, 0, 1339), (18, 138, 136, 0, 1343), (11, 262, 171, 0, 1347), (11, 265, 172, 0, 1351), (18, 143, 137, 0, 1355), (18, 147, 138, 0, 1359), (18, 152, 139, 0, 1363)]
