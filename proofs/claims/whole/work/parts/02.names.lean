/-! names, shapes, methods, links: printed by gen2.py out of the claim's words -/
def Tn0 : u_T := fun k => match k with
  | 0 => ("ChildTrains", "children", "LChildTrains$Children;", true)
  | 1 => ("ChildTrains", "draft", "LChildTrains$Draft;", true)
  | 2 => ("ChildTrains", "platform", "LChildTrains$Platform;", true)
  | 3 => ("ChildTrains", "houses", "LChildTrains$Houses;", true)
  | 4 => ("ChildTrains", "meeting", "LChildTrains$Hall;", true)
  | 5 => ("ChildTrains", "lodging", "LChildTrains$Lodging;", true)
  | 6 => ("ChildTrains", "reader", "LChildTrains$OrderReader;", true)
  | 7 => ("ChildTrains", "register", "LChildTrains$Register;", true)
  | 8 => ("ChildTrains", "routes", "LChildTrains$Paths;", true)
  | 9 => ("ChildTrains", "tally", "[I", true)
  | 10 => ("ChildTrains", "delays", "[[I", true)
  | 11 => ("ChildTrains", "book", "LChildTrains$OrderBook;", false)
  | 12 => ("ChildTrains", "spareBook", "LChildTrains$OrderBook;", false)
  | _ => ("ChildTrains", "traced", "J", false)
def ty0 : Nat → FieldType := fun k => match k with
  | 0 => .object "ChildTrains$Children"
  | 1 => .object "ChildTrains$Draft"
  | 2 => .object "ChildTrains$Platform"
  | 3 => .object "ChildTrains$Houses"
  | 4 => .object "ChildTrains$Hall"
  | 5 => .object "ChildTrains$Lodging"
  | 6 => .object "ChildTrains$OrderReader"
  | 7 => .object "ChildTrains$Register"
  | 8 => .object "ChildTrains$Paths"
  | 9 => .array (.int)
  | 10 => .array (.array (.int))
  | 11 => .object "ChildTrains$OrderBook"
  | 12 => .object "ChildTrains$OrderBook"
  | _ => .long
theorem nm0 : ∀ a, a < 14 → ∀ b, b < 14 → a ≠ b → (Tn0 a).2.1 ≠ (Tn0 b).2.1 := by decide +kernel
theorem ty0_ok : ∀ k, k < 14 → parseFieldDescriptor (Tn0 k).2.2.1 = some (ty0 k) := by decide +kernel
def Tn1 : u_T := fun k => match k with
  | 0 => ("ChildTrains$Children", "sex", "[I", true)
  | 1 => ("ChildTrains$Children", "age", "[I", true)
  | 2 => ("ChildTrains$Children", "kin", "[I", true)
  | 3 => ("ChildTrains$Children", "group", "[I", true)
  | 4 => ("ChildTrains$Children", "name", "[J", true)
  | 5 => ("ChildTrains$Children", "letters", "[I", true)
  | _ => ("ChildTrains$Children", "size", "I", false)
def ty1 : Nat → FieldType := fun k => match k with
  | 0 => .array (.int)
  | 1 => .array (.int)
  | 2 => .array (.int)
  | 3 => .array (.int)
  | 4 => .array (.long)
  | 5 => .array (.int)
  | _ => .int
theorem nm1 : ∀ a, a < 7 → ∀ b, b < 7 → a ≠ b → (Tn1 a).2.1 ≠ (Tn1 b).2.1 := by decide +kernel
theorem ty1_ok : ∀ k, k < 7 → parseFieldDescriptor (Tn1 k).2.2.1 = some (ty1 k) := by decide +kernel
def Tn2 : u_T := fun k => match k with
  | 0 => ("ChildTrains$Draft", "text", "[I", true)
  | _ => ("ChildTrains$Draft", "length", "I", false)
def ty2 : Nat → FieldType := fun k => match k with
  | 0 => .array (.int)
  | _ => .int
theorem nm2 : ∀ a, a < 2 → ∀ b, b < 2 → a ≠ b → (Tn2 a).2.1 ≠ (Tn2 b).2.1 := by decide +kernel
theorem ty2_ok : ∀ k, k < 2 → parseFieldDescriptor (Tn2 k).2.2.1 = some (ty2 k) := by decide +kernel
def Tn3 : u_T := fun k => match k with
  | 0 => ("ChildTrains$Hall", "member", "[I", true)
  | 1 => ("ChildTrains$Hall", "houseOf", "[I", true)
  | _ => ("ChildTrains$Hall", "size", "I", false)
def ty3 : Nat → FieldType := fun k => match k with
  | 0 => .array (.int)
  | 1 => .array (.int)
  | _ => .int
theorem nm3 : ∀ a, a < 3 → ∀ b, b < 3 → a ≠ b → (Tn3 a).2.1 ≠ (Tn3 b).2.1 := by decide +kernel
theorem ty3_ok : ∀ k, k < 3 → parseFieldDescriptor (Tn3 k).2.2.1 = some (ty3 k) := by decide +kernel
def Tn4 : u_T := fun k => match k with
  | 0 => ("ChildTrains$Houses", "village", "[I", true)
  | 1 => ("ChildTrains$Houses", "kind", "[I", true)
  | 2 => ("ChildTrains$Houses", "beds", "[I", true)
  | 3 => ("ChildTrains$Houses", "takes", "[I", true)
  | 4 => ("ChildTrains$Houses", "habit", "[I", true)
  | _ => ("ChildTrains$Houses", "size", "I", false)
def ty4 : Nat → FieldType := fun k => match k with
  | 0 => .array (.int)
  | 1 => .array (.int)
  | 2 => .array (.int)
  | 3 => .array (.int)
  | 4 => .array (.int)
  | _ => .int
theorem nm4 : ∀ a, a < 6 → ∀ b, b < 6 → a ≠ b → (Tn4 a).2.1 ≠ (Tn4 b).2.1 := by decide +kernel
theorem ty4_ok : ∀ k, k < 6 → parseFieldDescriptor (Tn4 k).2.2.1 = some (ty4 k) := by decide +kernel
def Tn5 : u_T := fun k => match k with
  | 0 => ("ChildTrains$Lodging", "kinOf", "[I", true)
  | 1 => ("ChildTrains$Lodging", "takenBy", "[I", true)
  | 2 => ("ChildTrains$Lodging", "bedsOf", "[I", true)
  | 3 => ("ChildTrains$Lodging", "ofSort", "[I", true)
  | 4 => ("ChildTrains$Lodging", "kept", "[I", true)
  | 5 => ("ChildTrains$Lodging", "members", "I", false)
  | 6 => ("ChildTrains$Lodging", "homes", "I", false)
  | 7 => ("ChildTrains$Lodging", "village", "I", false)
  | 8 => ("ChildTrains$Lodging", "over", "I", false)
  | _ => ("ChildTrains$Lodging", "parted", "I", false)
def ty5 : Nat → FieldType := fun k => match k with
  | 0 => .array (.int)
  | 1 => .array (.int)
  | 2 => .array (.int)
  | 3 => .array (.int)
  | 4 => .array (.int)
  | 5 => .int
  | 6 => .int
  | 7 => .int
  | 8 => .int
  | _ => .int
theorem nm5 : ∀ a, a < 10 → ∀ b, b < 10 → a ≠ b → (Tn5 a).2.1 ≠ (Tn5 b).2.1 := by decide +kernel
theorem ty5_ok : ∀ k, k < 10 → parseFieldDescriptor (Tn5 k).2.2.1 = some (ty5 k) := by decide +kernel
def Tn6 : u_T := fun k => match k with
  | 0 => ("ChildTrains$OrderBook", "body", "[I", true)
  | 1 => ("ChildTrains$OrderBook", "day", "[I", true)
  | 2 => ("ChildTrains$OrderBook", "verdict", "[I", true)
  | 3 => ("ChildTrains$OrderBook", "deed", "[I", true)
  | 4 => ("ChildTrains$OrderBook", "conds", "[I", true)
  | 5 => ("ChildTrains$OrderBook", "condWhat", "[I", true)
  | 6 => ("ChildTrains$OrderBook", "condValue", "[I", true)
  | 7 => ("ChildTrains$OrderBook", "condNot", "[Z", true)
  | _ => ("ChildTrains$OrderBook", "size", "I", false)
def ty6 : Nat → FieldType := fun k => match k with
  | 0 => .array (.int)
  | 1 => .array (.int)
  | 2 => .array (.int)
  | 3 => .array (.int)
  | 4 => .array (.int)
  | 5 => .array (.int)
  | 6 => .array (.int)
  | 7 => .array (.boolean)
  | _ => .int
theorem nm6 : ∀ a, a < 9 → ∀ b, b < 9 → a ≠ b → (Tn6 a).2.1 ≠ (Tn6 b).2.1 := by decide +kernel
theorem ty6_ok : ∀ k, k < 9 → parseFieldDescriptor (Tn6 k).2.2.1 = some (ty6 k) := by decide +kernel
def Tn7 : u_T := fun k => match k with
  | _ => ("ChildTrains$OrderReader", "at", "I", false)
def ty7 : Nat → FieldType := fun k => match k with
  | _ => .int
theorem nm7 : ∀ a, a < 1 → ∀ b, b < 1 → a ≠ b → (Tn7 a).2.1 ≠ (Tn7 b).2.1 := by decide +kernel
theorem ty7_ok : ∀ k, k < 1 → parseFieldDescriptor (Tn7 k).2.2.1 = some (ty7 k) := by decide +kernel
def Tn8 : u_T := fun k => match k with
  | 0 => ("ChildTrains$Paths", "people", "[I", true)
  | 1 => ("ChildTrains$Paths", "fewest", "[I", true)
  | 2 => ("ChildTrains$Paths", "gone", "I", false)
  | _ => ("ChildTrains$Paths", "used", "I", false)
def ty8 : Nat → FieldType := fun k => match k with
  | 0 => .array (.int)
  | 1 => .array (.int)
  | 2 => .int
  | _ => .int
theorem nm8 : ∀ a, a < 4 → ∀ b, b < 4 → a ≠ b → (Tn8 a).2.1 ≠ (Tn8 b).2.1 := by decide +kernel
theorem ty8_ok : ∀ k, k < 4 → parseFieldDescriptor (Tn8 k).2.2.1 = some (ty8 k) := by decide +kernel
def Tn9 : u_T := fun k => match k with
  | 0 => ("ChildTrains$Platform", "label", "[I", true)
  | 1 => ("ChildTrains$Platform", "comes", "[I", true)
  | 2 => ("ChildTrains$Platform", "trains", "[[I", true)
  | 3 => ("ChildTrains$Platform", "seatsLeft", "[I", true)
  | 4 => ("ChildTrains$Platform", "waiting", "[I", true)
  | 5 => ("ChildTrains$Platform", "trainOf", "[I", true)
  | 6 => ("ChildTrains$Platform", "minuteOf", "[I", true)
  | 7 => ("ChildTrains$Platform", "waits", "I", false)
  | 8 => ("ChildTrains$Platform", "way", "I", false)
  | _ => ("ChildTrains$Platform", "stale", "Z", false)
def ty9 : Nat → FieldType := fun k => match k with
  | 0 => .array (.int)
  | 1 => .array (.int)
  | 2 => .array (.array (.int))
  | 3 => .array (.int)
  | 4 => .array (.int)
  | 5 => .array (.int)
  | 6 => .array (.int)
  | 7 => .int
  | 8 => .int
  | _ => .boolean
theorem nm9 : ∀ a, a < 10 → ∀ b, b < 10 → a ≠ b → (Tn9 a).2.1 ≠ (Tn9 b).2.1 := by decide +kernel
theorem ty9_ok : ∀ k, k < 10 → parseFieldDescriptor (Tn9 k).2.2.1 = some (ty9 k) := by decide +kernel
def Tn10 : u_T := fun k => match k with
  | 0 => ("ChildTrains$Register", "who", "[I", true)
  | 1 => ("ChildTrains$Register", "from", "[I", true)
  | 2 => ("ChildTrains$Register", "into", "[I", true)
  | 3 => ("ChildTrains$Register", "day", "[I", true)
  | 4 => ("ChildTrains$Register", "now", "[I", true)
  | 5 => ("ChildTrains$Register", "leftOn", "[I", true)
  | 6 => ("ChildTrains$Register", "size", "I", false)
  | _ => ("ChildTrains$Register", "latest", "I", false)
def ty10 : Nat → FieldType := fun k => match k with
  | 0 => .array (.int)
  | 1 => .array (.int)
  | 2 => .array (.int)
  | 3 => .array (.int)
  | 4 => .array (.int)
  | 5 => .array (.int)
  | 6 => .int
  | _ => .int
theorem nm10 : ∀ a, a < 8 → ∀ b, b < 8 → a ≠ b → (Tn10 a).2.1 ≠ (Tn10 b).2.1 := by decide +kernel
theorem ty10_ok : ∀ k, k < 8 → parseFieldDescriptor (Tn10 k).2.2.1 = some (ty10 k) := by decide +kernel
def Tn11 : u_T := fun k => match k with
  | 0 => ("ChildTrainsModel", "thrown", "I", false)
  | 1 => ("ChildTrainsModel", "trace", "J", false)
  | 2 => ("ChildTrainsModel", "children", "I", false)
  | 3 => ("ChildTrainsModel", "sex", "[I", true)
  | 4 => ("ChildTrainsModel", "age", "[I", true)
  | 5 => ("ChildTrainsModel", "kin", "[I", true)
  | 6 => ("ChildTrainsModel", "party", "[I", true)
  | 7 => ("ChildTrainsModel", "named", "[I", true)
  | 8 => ("ChildTrainsModel", "letters", "[I", true)
  | 9 => ("ChildTrainsModel", "parties", "[I", true)
  | 10 => ("ChildTrainsModel", "train", "[I", true)
  | 11 => ("ChildTrainsModel", "way", "I", false)
  | 12 => ("ChildTrainsModel", "trainOf", "[I", true)
  | 13 => ("ChildTrainsModel", "minuteOf", "[I", true)
  | 14 => ("ChildTrainsModel", "taken", "[I", true)
  | 15 => ("ChildTrainsModel", "queue", "[I", true)
  | 16 => ("ChildTrainsModel", "houses", "I", false)
  | 17 => ("ChildTrainsModel", "house", "[I", true)
  | 18 => ("ChildTrainsModel", "given", "[I", true)
  | 19 => ("ChildTrainsModel", "draft", "[I", true)
  | 20 => ("ChildTrainsModel", "typed", "I", false)
  | 21 => ("ChildTrainsModel", "orders", "I", false)
  | 22 => ("ChildTrainsModel", "order", "[I", true)
  | 23 => ("ChildTrainsModel", "read", "[I", true)
  | 24 => ("ChildTrainsModel", "at", "I", false)
  | 25 => ("ChildTrainsModel", "number", "I", false)
  | 26 => ("ChildTrainsModel", "fault", "I", false)
  | 27 => ("ChildTrainsModel", "delay", "[I", true)
  | 28 => ("ChildTrainsModel", "events", "I", false)
  | 29 => ("ChildTrainsModel", "eventChild", "[I", true)
  | 30 => ("ChildTrainsModel", "eventHouse", "[I", true)
  | 31 => ("ChildTrainsModel", "eventDay", "[I", true)
  | 32 => ("ChildTrainsModel", "eventFrom", "[I", true)
  | 33 => ("ChildTrainsModel", "mine", "[I", true)
  | 34 => ("ChildTrainsModel", "there", "[I", true)
  | 35 => ("ChildTrainsModel", "room", "[I", true)
  | 36 => ("ChildTrainsModel", "fill", "[I", true)
  | 37 => ("ChildTrainsModel", "nextFill", "[I", true)
  | 38 => ("ChildTrainsModel", "ways", "[I", true)
  | 39 => ("ChildTrainsModel", "wayCost", "[I", true)
  | 40 => ("ChildTrainsModel", "sorts", "[I", true)
  | 41 => ("ChildTrainsModel", "isDone", "[Z", true)
  | 42 => ("ChildTrainsModel", "least", "[I", true)
  | 43 => ("ChildTrainsModel", "answers", "[I", true)
  | _ => ("ChildTrainsModel", "hours", "[I", true)
def ty11 : Nat → FieldType := fun k => match k with
  | 0 => .int
  | 1 => .long
  | 2 => .int
  | 3 => .array (.int)
  | 4 => .array (.int)
  | 5 => .array (.int)
  | 6 => .array (.int)
  | 7 => .array (.int)
  | 8 => .array (.int)
  | 9 => .array (.int)
  | 10 => .array (.int)
  | 11 => .int
  | 12 => .array (.int)
  | 13 => .array (.int)
  | 14 => .array (.int)
  | 15 => .array (.int)
  | 16 => .int
  | 17 => .array (.int)
  | 18 => .array (.int)
  | 19 => .array (.int)
  | 20 => .int
  | 21 => .int
  | 22 => .array (.int)
  | 23 => .array (.int)
  | 24 => .int
  | 25 => .int
  | 26 => .int
  | 27 => .array (.int)
  | 28 => .int
  | 29 => .array (.int)
  | 30 => .array (.int)
  | 31 => .array (.int)
  | 32 => .array (.int)
  | 33 => .array (.int)
  | 34 => .array (.int)
  | 35 => .array (.int)
  | 36 => .array (.int)
  | 37 => .array (.int)
  | 38 => .array (.int)
  | 39 => .array (.int)
  | 40 => .array (.int)
  | 41 => .array (.boolean)
  | 42 => .array (.int)
  | 43 => .array (.int)
  | _ => .array (.int)
theorem nm11 : ∀ a, a < 45 → ∀ b, b < 45 → a ≠ b → (Tn11 a).2.1 ≠ (Tn11 b).2.1 := by decide +kernel
theorem ty11_ok : ∀ k, k < 45 → parseFieldDescriptor (Tn11 k).2.2.1 = some (ty11 k) := by decide +kernel
def cls : List vw_C := [("ChildTrains", Tn0, 14), ("ChildTrains$Children", Tn1, 7), ("ChildTrains$Draft", Tn2, 2), ("ChildTrains$Hall", Tn3, 3), ("ChildTrains$Houses", Tn4, 6), ("ChildTrains$Lodging", Tn5, 10), ("ChildTrains$OrderBook", Tn6, 9), ("ChildTrains$OrderReader", Tn7, 1), ("ChildTrains$Paths", Tn8, 4), ("ChildTrains$Platform", Tn9, 10), ("ChildTrains$Register", Tn10, 8), ("ChildTrainsModel", Tn11, 45)]
def tyL : List (Nat → FieldType) := [ty0, ty1, ty2, ty3, ty4, ty5, ty6, ty7, ty8, ty9, ty10, ty11]
def shL : List (Nat × Nat × List Nat) := [(4, 0, [1, 8, 10, 24, 30, 33, 39, 40, 47, 50, 51, 58, 67, 0]), (4, 1, [2, 3, 4, 5, 6, 7, 0]), (0, 48, []), (0, 48, []), (0, 48, []), (0, 48, []), (1, 48, []), (0, 48, []), (4, 2, [9, 0]), (0, 600, []), (4, 9, [11, 12, 13, 20, 21, 22, 23, 0, 0, 0]), (0, 8, []), (0, 8, []), (3, 6, [14]), (0, 5, []), (0, 5, []), (0, 5, []), (0, 5, []), (0, 5, []), (0, 5, []), (0, 6, []), (0, 48, []), (0, 48, []), (0, 48, []), (4, 4, [25, 26, 27, 28, 29, 0]), (0, 24, []), (0, 24, []), (0, 24, []), (0, 24, []), (0, 24, []), (4, 3, [31, 32, 0]), (0, 48, []), (0, 48, []), (4, 5, [34, 35, 36, 37, 38, 0, 0, 0, 0, 0]), (0, 12, []), (0, 6, []), (0, 6, []), (0, 4, []), (0, 4096, []), (4, 7, [0]), (4, 10, [41, 42, 43, 44, 45, 46, 0, 0]), (0, 80, []), (0, 80, []), (0, 80, []), (0, 80, []), (0, 48, []), (0, 80, []), (4, 8, [48, 49, 0, 0]), (0, 256, []), (0, 256, []), (0, 8, []), (3, 6, [52]), (0, 3, []), (0, 3, []), (0, 3, []), (0, 3, []), (0, 3, []), (0, 3, []), (4, 6, [59, 60, 61, 62, 63, 64, 65, 66, 0]), (0, 30, []), (0, 30, []), (0, 30, []), (0, 30, []), (0, 30, []), (0, 180, []), (0, 180, []), (2, 180, []), (4, 6, [68, 69, 70, 71, 72, 73, 74, 75, 0]), (0, 30, []), (0, 30, []), (0, 30, []), (0, 30, []), (0, 30, []), (0, 180, []), (0, 180, []), (2, 180, []), (4, 11, [0, 0, 0, 77, 78, 79, 80, 81, 82, 83, 84, 0, 85, 86, 87, 88, 0, 89, 90, 91, 0, 0, 92, 93, 0, 0, 0, 94, 0, 95, 96, 97, 98, 99, 100, 101, 102, 103, 104, 105, 106, 107, 108, 109, 110]), (0, 48, []), (0, 48, []), (0, 48, []), (0, 48, []), (0, 48, []), (0, 384, []), (0, 16, []), (0, 30, []), (0, 48, []), (0, 48, []), (0, 6, []), (0, 48, []), (0, 120, []), (0, 48, []), (0, 600, []), (0, 750, []), (0, 750, []), (0, 18, []), (0, 80, []), (0, 80, []), (0, 80, []), (0, 80, []), (0, 48, []), (0, 24, []), (0, 6, []), (0, 15625, []), (0, 15625, []), (0, 15625, []), (0, 15625, []), (0, 4, []), (2, 48, []), (0, 16384, []), (0, 9, []), (0, 9, [])]
def ctL : List (List Nat) := [[3, 3, 3, 3, 3, 3, 3, 3, 3, 3, 3, 3, 3, 1], [3, 3, 3, 3, 3, 3, 0], [3, 0], [3, 3, 0], [3, 3, 3, 3, 3, 0], [3, 3, 3, 3, 3, 0, 0, 0, 0, 0], [3, 3, 3, 3, 3, 3, 3, 3, 0], [0], [3, 3, 0, 0], [3, 3, 3, 3, 3, 3, 3, 0, 0, 2], [3, 3, 3, 3, 3, 3, 0, 0], [0, 1, 0, 3, 3, 3, 3, 3, 3, 3, 3, 0, 3, 3, 3, 3, 0, 3, 3, 3, 0, 0, 3, 3, 0, 0, 0, 3, 0, 3, 3, 3, 3, 3, 3, 3, 3, 3, 3, 3, 3, 3, 3, 3, 3]]
def tbL : List (List Int) := [[0, 0, 0, 1, 0], [300, 300, 48, 4, 5], [109, 99, 112], [58], [45, 61, 43], [108, 118, 102], [33], [115, 97, 107, 104, 119], [60, 62], [59]]
def ownL : List String := ["ChildTrains", "ChildTrains$Children", "ChildTrains$Draft", "ChildTrains$Hall", "ChildTrains$Houses", "ChildTrains$Lodging", "ChildTrains$OrderBook", "ChildTrains$OrderReader", "ChildTrains$Paths", "ChildTrains$Platform", "ChildTrains$Register", "ChildTrainsModel", "java/util/Arrays", "java/lang/Math", "java/lang/Integer", "java/lang/String", "java/lang/StringLatin1", "jdk/internal/util/Preconditions", "ChildTrainsLaw"]
/-- own, name, descriptor, bytes, locals, answer, static, how many arguments (the receiver too), places of its words: code, initialized, static or instanceMethod, selects -/
abbrev Mrow : Type := Nat × String × String × Unit × Nat × Option FieldType × Bool × Nat × List Nat
def mtL0 : List Mrow := [(0, "child", "(IIII)I", (), 5, some .int, false, 5, [451, 60, 449, 450]),
  (0, "type", "(JI)I", (), 4, some .int, false, 3, [469, 60, 467, 468]),
  (0, "clear", "()I", (), 1, some .int, false, 1, [477, 60, 475, 476]),
  (0, "name", "(I)I", (), 2, some .int, false, 2, [485, 60, 483, 484]),
  (0, "party", "(III)I", (), 6, some .int, false, 4, [502, 60, 500, 501]),
  (0, "train", "(III)I", (), 5, some .int, false, 4, [506, 60, 504, 505]),
  (0, "wayOf", "(I)I", (), 3, some .int, false, 2, [517, 60, 515, 516]),
  (0, "boarded", "(II)I", (), 3, some .int, false, 3, [521, 60, 519, 520]),
  (0, "mixed", "(I)I", (), 3, some .int, false, 2, [549, 60, 547, 548]),
  (0, "load", "(II)I", (), 3, some .int, false, 3, [565, 60, 563, 564]),
  (0, "house", "(IIIII)I", (), 6, some .int, false, 6, [570, 60, 568, 569]),
  (0, "pay", "(III)I", (), 4, some .int, false, 4, [581, 60, 579, 580]),
  (0, "hall", "(II)I", (), 3, some .int, false, 3, [594, 60, 592, 593]),
  (0, "chosen", "(I)I", (), 3, some .int, false, 2, [648, 60, 646, 647]),
  (0, "best", "(II)I", (), 3, some .int, false, 3, [652, 60, 650, 651]),
  (0, "orders", "()I", (), 3, some .int, false, 1, [707, 60, 705, 706]),
  (0, "delay", "(III)I", (), 5, some .int, false, 4, [806, 60, 804, 805]),
  (0, "ruling", "(IIII)I", (), 5, some .int, false, 5, [810, 60, 808, 809]),
  (0, "why", "(IIII)I", (), 5, some .int, false, 5, [849, 60, 847, 848]),
  (0, "lodge", "(III)I", (), 5, some .int, false, 4, [853, 60, 851, 852]),
  (0, "fetch", "(II)I", (), 4, some .int, false, 3, [867, 60, 865, 866]),
  (0, "where", "(II)I", (), 3, some .int, false, 3, [871, 60, 869, 870]),
  (0, "paid", "(II)I", (), 4, some .int, false, 3, [879, 60, 877, 878]),
  (0, "free", "(II)I", (), 3, some .int, false, 3, [887, 60, 885, 886]),
  (0, "trouble", "(I)I", (), 2, some .int, false, 2, [891, 60, 889, 890])]
def mtL1 : List Mrow := [(0, "restless", "()I", (), 3, some .int, false, 1, [899, 60, 897, 898]),
  (0, "city", "(I)I", (), 4, some .int, false, 2, [907, 60, 905, 906]),
  (0, "torn", "(JII)I", (), 8, some .int, false, 4, [911, 60, 909, 910]),
  (0, "paths", "(I)I", (), 2, some .int, false, 2, [937, 60, 935, 936]),
  (0, "lessons", "(IIIIII)I", (), 8, some .int, false, 7, [963, 60, 961, 962]),
  (0, "count", "(I)I", (), 2, some .int, false, 2, [968, 60, 966, 967]),
  (0, "trace", "()J", (), 1, some .long, false, 1, [972, 60, 970, 971]),
  (0, "within", "(III)Z", (), 3, some .boolean, true, 3, [454, 60, 453, 0]),
  (0, "isParty", "(I)Z", (), 1, some .boolean, true, 1, [457, 60, 456, 0]),
  (0, "boardAnew", "()V", (), 1, none, false, 1, [461, 60, 460, 0]),
  (0, "isChild", "(I)Z", (), 2, some .boolean, false, 2, [489, 60, 488, 1]),
  (0, "isTrain", "(I)Z", (), 1, some .boolean, true, 1, [509, 60, 508, 0]),
  (0, "isVillage", "(I)Z", (), 1, some .boolean, true, 1, [573, 60, 572, 0]),
  (0, "bodiesAsked", "(I)J", (), 1, some .long, true, 1, [584, 60, 583, 0]),
  (0, "payFor", "(III)I", (), 4, some .int, true, 3, [590, 60, 589, 0]),
  (0, "assemble", "(I)V", (), 2, none, false, 2, [598, 60, 597, 5]),
  (0, "canRule", "(IIII)Z", (), 5, some .boolean, false, 5, [814, 60, 813, 21]),
  (0, "isHouse", "(I)Z", (), 2, some .boolean, false, 2, [818, 60, 817, 22]),
  (0, "isDay", "(I)Z", (), 1, some .boolean, true, 1, [821, 60, 820, 0]),
  (0, "rulingOf", "(IIII)I", (), 6, some .int, false, 5, [825, 60, 824, 23]),
  (0, "rulerOf", "(IIII)I", (), 5, some .int, false, 5, [829, 60, 828, 24]),
  (0, "isTorn", "(JI)Z", (), 5, some .boolean, true, 2, [914, 60, 913, 0]),
  (0, "nextQuestion", "(JI)I", (), 8, some .int, false, 3, [922, 60, 921, 27]),
  (0, "mostAlike", "(JII)I", (), 8, some .int, false, 4, [926, 60, 925, 28]),
  (1, "add", "(IIII)I", (), 5, some .int, false, 5, [465, 61, 463, 464])]
def mtL2 : List Mrow := [(1, "sortOf", "(I)I", (), 2, some .int, false, 2, [616, 61, 614, 615]),
  (1, "isBig", "(I)Z", (), 2, some .boolean, false, 2, [620, 61, 618, 619]),
  (1, "areKin", "(II)Z", (), 3, some .boolean, false, 3, [636, 61, 634, 635]),
  (1, "hasKin", "(I)Z", (), 2, some .boolean, false, 2, [845, 61, 843, 844]),
  (1, "fits", "(IJI)Z", (), 8, some .boolean, false, 4, [918, 61, 916, 917]),
  (1, "answer", "(II)I", (), 3, some .int, false, 3, [931, 61, 929, 930]),
  (2, "append", "(JI)V", (), 5, none, false, 3, [473, 62, 471, 472]),
  (2, "empty", "()I", (), 2, some .int, false, 1, [481, 62, 479, 480]),
  (2, "isName", "()Z", (), 2, some .boolean, false, 1, [493, 62, 491, 492]),
  (2, "packed", "()J", (), 4, some .long, false, 1, [498, 62, 496, 497]),
  (2, "at", "(I)I", (), 2, some .int, false, 2, [734, 62, 732, 733]),
  (3, "gather", "(LChildTrains$Children;LChildTrains$Platform;I)V", (), 5, none, false, 4, [602, 65, 600, 601]),
  (3, "choose", "(LChildTrains$Children;LChildTrains$Houses;I)V", (), 7, none, false, 4, [608, 65, 606, 607]),
  (3, "favourite", "(LChildTrains$Children;LChildTrains$Houses;I)I", (), 9, some .int, false, 4, [612, 65, 611, 6]),
  (3, "rankOf", "(LChildTrains$Children;III)I", (), 5, some .int, false, 5, [628, 65, 627, 7]),
  (3, "hasKinIn", "(LChildTrains$Children;II)Z", (), 5, some .boolean, false, 4, [632, 65, 631, 8]),
  (3, "countOver", "()I", (), 3, some .int, false, 1, [640, 65, 638, 639]),
  (3, "countParted", "(LChildTrains$Children;)I", (), 6, some .int, false, 2, [644, 65, 642, 643]),
  (4, "add", "(IIIII)I", (), 6, some .int, false, 6, [577, 64, 575, 576]),
  (4, "takesSort", "(II)Z", (), 3, some .boolean, false, 3, [624, 64, 622, 623]),
  (4, "countIn", "(I)I", (), 4, some .int, false, 2, [656, 64, 654, 655]),
  (4, "bedsIn", "(I)I", (), 4, some .int, false, 2, [954, 64, 952, 953]),
  (5, "solve", "(LChildTrains$Children;LChildTrains$Houses;LChildTrains$Hall;I)V", (), 7, none, false, 5, [660, 66, 658, 659]),
  (5, "noteChildren", "(LChildTrains$Children;LChildTrains$Hall;)V", (), 5, none, false, 3, [667, 66, 666, 9]),
  (5, "noteHouses", "(LChildTrains$Houses;I)V", (), 5, none, false, 3, [674, 66, 673, 10])]
def mtL3 : List Mrow := [(5, "mostLodged", "()I", (), 6, some .int, false, 1, [679, 66, 678, 11]),
  (5, "countPairs", "()I", (), 3, some .int, false, 1, [689, 66, 688, 12]),
  (5, "mostTogether", "(II)I", (), 9, some .int, false, 3, [693, 66, 692, 13]),
  (5, "keptWith", "(LChildTrains$Lodging;IIIII)I", (), 12, some .int, true, 6, [696, 66, 695, 0]),
  (6, "ruler", "(ILChildTrains$Children;ILChildTrains$Houses;II[I)I", (), 10, some .int, false, 8, [833, 71, 831, 832]),
  (6, "holds", "(ILChildTrains$Children;ILChildTrains$Houses;I)Z", (), 8, some .boolean, false, 6, [837, 71, 836, 25]),
  (6, "isSo", "(ILChildTrains$Children;ILChildTrains$Houses;I)Z", (), 7, some .boolean, false, 6, [841, 71, 840, 26]),
  (7, "read", "(LChildTrains$Draft;LChildTrains$OrderBook;)I", (), 4, some .int, false, 3, [711, 67, 709, 710]),
  (7, "readOrder", "(LChildTrains$Draft;LChildTrains$OrderBook;)Z", (), 5, some .boolean, false, 3, [715, 67, 714, 14]),
  (7, "readSign", "(LChildTrains$Draft;Ljava/lang/String;)I", (), 4, some .int, false, 3, [720, 67, 719, 15]),
  (7, "readNumber", "(LChildTrains$Draft;I)I", (), 6, some .int, false, 3, [776, 67, 775, 16]),
  (7, "readConds", "(LChildTrains$Draft;LChildTrains$OrderBook;I)Z", (), 5, some .boolean, false, 4, [785, 67, 784, 17]),
  (7, "readCond", "(LChildTrains$Draft;LChildTrains$OrderBook;I)Z", (), 4, some .boolean, false, 4, [789, 67, 788, 18]),
  (7, "readValue", "(LChildTrains$Draft;LChildTrains$OrderBook;III)Z", (), 6, some .boolean, false, 6, [795, 67, 794, 19]),
  (7, "readAge", "(LChildTrains$Draft;LChildTrains$OrderBook;I)Z", (), 5, some .boolean, false, 4, [799, 67, 798, 20]),
  (8, "solve", "(LChildTrains$Children;LChildTrains$Platform;LChildTrains$Houses;)V", (), 5, none, false, 4, [941, 70, 939, 940]),
  (8, "countPeople", "(LChildTrains$Children;)V", (), 4, none, false, 2, [945, 70, 944, 29]),
  (8, "roomTo", "(LChildTrains$Platform;LChildTrains$Houses;I)I", (), 5, some .int, true, 3, [949, 70, 948, 0]),
  (8, "bring", "(I)V", (), 6, none, false, 2, [959, 70, 958, 30]),
  (9, "settle", "(LChildTrains$Children;)V", (), 4, none, false, 2, [525, 63, 523, 524]),
  (9, "arrive", "(LChildTrains$Children;I)V", (), 5, none, false, 3, [530, 63, 529, 2]),
  (9, "fill", "(LChildTrains$Children;II)V", (), 8, none, false, 4, [534, 63, 533, 3]),
  (9, "firstLabelled", "(LChildTrains$Children;I)I", (), 4, some .int, false, 3, [538, 63, 537, 4]),
  (9, "villageOf", "(I)I", (), 2, some .int, false, 2, [545, 63, 543, 544]),
  (9, "carried", "(LChildTrains$Children;I)I", (), 5, some .int, false, 3, [553, 63, 551, 552])]
def mtL4 : List Mrow := [(9, "carriedOf", "(LChildTrains$Children;II)I", (), 6, some .int, false, 4, [557, 63, 555, 556]),
  (9, "mislaid", "(LChildTrains$Children;)I", (), 4, some .int, false, 2, [561, 63, 559, 560]),
  (10, "inside", "(II)I", (), 5, some .int, false, 3, [857, 68, 855, 856]),
  (10, "tell", "(III)I", (), 4, some .int, false, 4, [863, 68, 861, 862]),
  (10, "placeOf", "(II)I", (), 5, some .int, false, 3, [875, 68, 873, 874]),
  (10, "smallInside", "(LChildTrains$Children;II)I", (), 6, some .int, false, 4, [883, 68, 881, 882]),
  (10, "isTroubled", "(I)Z", (), 4, some .boolean, false, 2, [895, 68, 893, 894]),
  (10, "movesOf", "(I)I", (), 4, some .int, false, 2, [903, 68, 901, 902]),
  (11, "child", "(IIII)I", (), 5, some .int, false, 5, [1118, 72, 1116, 1117]),
  (11, "type", "(JI)I", (), 5, some .int, false, 3, [1125, 72, 1123, 1124]),
  (11, "clear", "()I", (), 2, some .int, false, 1, [1130, 72, 1128, 1129]),
  (11, "name", "(I)I", (), 4, some .int, false, 2, [1134, 72, 1132, 1133]),
  (11, "party", "(III)I", (), 5, some .int, false, 4, [1142, 72, 1140, 1141]),
  (11, "train", "(III)I", (), 5, some .int, false, 4, [1146, 72, 1144, 1145]),
  (11, "wayOf", "(I)I", (), 3, some .int, false, 2, [1150, 72, 1148, 1149]),
  (11, "boarded", "(II)I", (), 3, some .int, false, 3, [1154, 72, 1152, 1153]),
  (11, "mixed", "(I)I", (), 5, some .int, false, 2, [1170, 72, 1168, 1169]),
  (11, "load", "(II)I", (), 5, some .int, false, 3, [1174, 72, 1172, 1173]),
  (11, "house", "(IIIII)I", (), 7, some .int, false, 6, [1178, 72, 1176, 1177]),
  (11, "pay", "(III)I", (), 4, some .int, false, 4, [1185, 72, 1183, 1184]),
  (11, "hall", "(II)I", (), 6, some .int, false, 3, [1195, 72, 1193, 1194]),
  (11, "chosen", "(I)I", (), 2, some .int, false, 2, [1223, 72, 1221, 1222]),
  (11, "best", "(II)I", (), 9, some .int, false, 3, [1227, 72, 1225, 1226]),
  (11, "orders", "()I", (), 3, some .int, false, 1, [1243, 72, 1241, 1242]),
  (11, "delay", "(III)I", (), 5, some .int, false, 4, [1271, 72, 1269, 1270])]
def mtL5 : List Mrow := [(11, "ruling", "(IIII)I", (), 5, some .int, false, 5, [1275, 72, 1273, 1274]),
  (11, "why", "(IIII)I", (), 5, some .int, false, 5, [1298, 72, 1296, 1297]),
  (11, "lodge", "(III)I", (), 5, some .int, false, 4, [1302, 72, 1300, 1301]),
  (11, "fetch", "(II)I", (), 4, some .int, false, 3, [1322, 72, 1320, 1321]),
  (11, "where", "(II)I", (), 3, some .int, false, 3, [1326, 72, 1324, 1325]),
  (11, "paid", "(II)I", (), 7, some .int, false, 3, [1330, 72, 1328, 1329]),
  (11, "free", "(II)I", (), 3, some .int, false, 3, [1334, 72, 1332, 1333]),
  (11, "trouble", "(I)I", (), 5, some .int, false, 2, [1338, 72, 1336, 1337]),
  (11, "restless", "()I", (), 5, some .int, false, 1, [1342, 72, 1340, 1341]),
  (11, "city", "(I)I", (), 2, some .int, false, 2, [1346, 72, 1344, 1345]),
  (11, "torn", "(JII)I", (), 14, some .int, false, 4, [1350, 72, 1348, 1349]),
  (11, "paths", "(I)I", (), 11, some .int, false, 2, [1354, 72, 1352, 1353]),
  (11, "lessons", "(IIIIII)I", (), 14, some .int, false, 7, [1366, 72, 1364, 1365]),
  (11, "count", "(I)I", (), 2, some .int, false, 2, [1370, 72, 1368, 1369]),
  (11, "trace", "()J", (), 1, some .long, false, 1, [1374, 72, 1372, 1373]),
  (11, "in", "(III)Z", (), 3, some .boolean, true, 3, [1121, 72, 1120, 0]),
  (11, "isChild", "(I)Z", (), 2, some .boolean, false, 2, [1138, 72, 1137, 31]),
  (11, "boards", "()V", (), 9, none, false, 1, [1158, 72, 1157, 32]),
  (11, "labelOf", "(I)I", (), 2, some .int, false, 2, [1162, 72, 1161, 33]),
  (11, "villageOf", "(I)I", (), 2, some .int, false, 2, [1166, 72, 1165, 34]),
  (11, "isVillage", "(I)Z", (), 1, some .boolean, true, 1, [1181, 72, 1180, 0]),
  (11, "payOf", "(III)I", (), 4, some .int, true, 3, [1191, 72, 1190, 0]),
  (11, "chooses", "(I)V", (), 6, none, false, 2, [1199, 72, 1198, 35]),
  (11, "isTaken", "(II)Z", (), 3, some .boolean, false, 3, [1203, 72, 1202, 36]),
  (11, "sortOf", "(I)I", (), 2, some .int, false, 2, [1207, 72, 1206, 37])]
def mtL6 : List Mrow := [(11, "isRather", "(III)Z", (), 5, some .boolean, false, 4, [1211, 72, 1210, 38]),
  (11, "hasKin", "(II)Z", (), 5, some .boolean, false, 3, [1215, 72, 1214, 39]),
  (11, "isKin", "(II)Z", (), 3, some .boolean, false, 3, [1219, 72, 1218, 40]),
  (11, "goes", "(III)V", (), 11, none, false, 4, [1232, 72, 1231, 41]),
  (11, "digit", "(II)I", (), 4, some .int, true, 2, [1235, 72, 1234, 0]),
  (11, "can", "(II)Z", (), 8, some .boolean, false, 3, [1239, 72, 1238, 42]),
  (11, "readsOrder", "(I)Z", (), 4, some .boolean, false, 2, [1247, 72, 1246, 43]),
  (11, "byteAt", "()I", (), 1, some .int, false, 1, [1251, 72, 1250, 44]),
  (11, "fails", "()Z", (), 1, some .boolean, false, 1, [1255, 72, 1254, 45]),
  (11, "reads", "(I)Z", (), 4, some .boolean, false, 2, [1259, 72, 1258, 46]),
  (11, "sign", "(I)Z", (), 2, some .boolean, false, 2, [1263, 72, 1262, 47]),
  (11, "readsCond", "(I)Z", (), 5, some .boolean, false, 2, [1267, 72, 1266, 48]),
  (11, "isHouse", "(I)Z", (), 2, some .boolean, false, 2, [1279, 72, 1278, 49]),
  (11, "isDay", "(I)Z", (), 1, some .boolean, true, 1, [1282, 72, 1281, 0]),
  (11, "rulingOf", "(IIII)I", (), 6, some .int, false, 5, [1286, 72, 1285, 50]),
  (11, "rules", "(IIII)I", (), 11, some .int, false, 5, [1290, 72, 1289, 51]),
  (11, "isSo", "(III)Z", (), 6, some .boolean, false, 4, [1294, 72, 1293, 52]),
  (11, "whereOf", "(II)I", (), 5, some .int, false, 3, [1306, 72, 1305, 53]),
  (11, "isLate", "(I)Z", (), 2, some .boolean, false, 2, [1310, 72, 1309, 54]),
  (11, "inside", "(II)I", (), 5, some .int, false, 3, [1314, 72, 1313, 55]),
  (11, "tells", "(IIII)V", (), 5, none, false, 5, [1318, 72, 1317, 56]),
  (11, "sizeOf", "(I)I", (), 4, some .int, false, 2, [1358, 72, 1357, 57]),
  (11, "isFilled", "(I)Z", (), 4, some .boolean, false, 2, [1362, 72, 1361, 58]),
  (12, "fill", "([II)V", (), 4, none, true, 2, [308, 69, 307, 0]),
  (14, "bitCount", "(I)I", (), 1, some .int, true, 1, [682, 75, 681, 0])]
def mtL7 : List Mrow := [(14, "numberOfTrailingZeros", "(I)I", (), 2, some .int, true, 1, [699, 75, 698, 0]),
  (15, "length", "()I", (), 1, some .int, false, 1, [724, 76, 722, 723]),
  (15, "coder", "()B", (), 1, some .byte, false, 1, [728, 76, 726, 727]),
  (15, "charAt", "(I)C", (), 2, some .char, false, 2, [738, 76, 736, 737]),
  (15, "isLatin1", "()Z", (), 1, some .boolean, false, 1, [742, 76, 740, 741]),
  (16, "charAt", "([BI)C", (), 2, some .char, true, 2, [745, 77, 744, 0]),
  (15, "checkIndex", "(II)V", (), 2, none, true, 2, [748, 76, 747, 0]),
  (17, "checkIndex", "(IILjava/util/function/BiFunction;)I", (), 3, some .int, true, 3, [753, 78, 752, 0])]
def mtL : List Mrow := mtL0 ++ (mtL1 ++ (mtL2 ++ (mtL3 ++ (mtL4 ++ (mtL5 ++ (mtL6 ++ (mtL7)))))))
/-- own, place in the pool, kind of object, field, nest or not, place of the word -/
def flL : List (Nat × Nat × Nat × Nat × Nat × Nat) := [(1, 9, 1, 0, 0, 94), (6, 48, 1, 0, 1, 95), (1, 15, 1, 1, 0, 96), (6, 53, 1, 1, 1, 97), (10, 43, 1, 1, 1, 98), (3, 64, 1, 1, 1, 99), (1, 18, 1, 2, 0, 100), (1, 21, 1, 3, 0, 101), (8, 48, 1, 3, 1, 102), (9, 64, 1, 3, 1, 103), (1, 24, 1, 4, 0, 104), (0, 132, 1, 4, 1, 105), (1, 28, 1, 5, 0, 106), (0, 140, 1, 5, 1, 107), (1, 31, 1, 6, 0, 108), (3, 28, 1, 6, 1, 109), (0, 103, 1, 6, 1, 110), (8, 43, 1, 6, 1, 111), (9, 59, 1, 6, 1, 112), (2, 9, 2, 0, 0, 136), (2, 15, 2, 1, 0, 137), (7, 20, 2, 1, 1, 138), (0, 114, 2, 1, 1, 139), (9, 9, 9, 0, 0, 153), (0, 143, 9, 0, 1, 154), (9, 15, 9, 1, 0, 155), (0, 146, 9, 1, 1, 156), (9, 20, 9, 2, 0, 157), (8, 51, 9, 2, 1, 158), (0, 158, 9, 2, 1, 159), (9, 23, 9, 3, 0, 160), (9, 26, 9, 4, 0, 161), (9, 29, 9, 5, 0, 162), (0, 168, 9, 5, 1, 163), (9, 32, 9, 6, 0, 164), (0, 171, 9, 6, 1, 165), (9, 35, 9, 7, 0, 166), (9, 39, 9, 8, 0, 167), (0, 161, 9, 8, 1, 168), (9, 42, 9, 9, 0, 169), (0, 334, 9, 9, 1, 170), (4, 9, 4, 0, 0, 198), (3, 40, 4, 0, 1, 199), (5, 94, 4, 0, 1, 200), (6, 65, 4, 0, 1, 201), (0, 328, 4, 0, 1, 202), (4, 15, 4, 1, 0, 203), (6, 60, 4, 1, 1, 204), (0, 286, 4, 1, 1, 205), (4, 18, 4, 2, 0, 206), (3, 43, 4, 2, 1, 207), (5, 96, 4, 2, 1, 208), (0, 270, 4, 2, 1, 209), (4, 21, 4, 3, 0, 210), (4, 24, 4, 4, 0, 211), (3, 57, 4, 4, 1, 212), (4, 27, 4, 5, 0, 213), (3, 37, 4, 5, 1, 214), (5, 91, 4, 5, 1, 215), (0, 193, 4, 5, 1, 216), (3, 9, 3, 0, 0, 236), (5, 78, 3, 0, 1, 237), (3, 15, 3, 1, 0, 238), (0, 223, 3, 1, 1, 239), (3, 18, 3, 2, 0, 240), (5, 43, 3, 2, 1, 241), (0, 212, 3, 2, 1, 242), (5, 9, 5, 0, 0, 256), (5, 15, 5, 1, 0, 257), (5, 18, 5, 2, 0, 258), (5, 21, 5, 3, 0, 259), (5, 24, 5, 4, 0, 260), (5, 27, 5, 5, 0, 261), (5, 31, 5, 6, 0, 262), (5, 34, 5, 7, 0, 263), (0, 194, 5, 7, 1, 264), (5, 37, 5, 8, 0, 265), (0, 233, 5, 8, 1, 266), (5, 40, 5, 9, 0, 267), (0, 236, 5, 9, 1, 268), (7, 9, 7, 0, 0, 296), (10, 9, 10, 0, 0, 309), (10, 15, 10, 1, 0, 310), (10, 18, 10, 2, 0, 311), (10, 21, 10, 3, 0, 312), (10, 24, 10, 4, 0, 313), (0, 260, 10, 4, 1, 314), (10, 27, 10, 5, 0, 315), (10, 30, 10, 6, 0, 316), (0, 324, 10, 6, 1, 317), (10, 34, 10, 7, 0, 318), (0, 263, 10, 7, 1, 319), (8, 11, 8, 0, 0, 343), (8, 15, 8, 1, 0, 344), (8, 18, 8, 2, 0, 345), (0, 313, 8, 2, 1, 346), (8, 22, 8, 3, 0, 347), (0, 316, 8, 3, 1, 348), (6, 9, 6, 0, 0, 365), (7, 29, 6, 0, 1, 366), (6, 15, 6, 1, 0, 367), (7, 39, 6, 1, 1, 368), (6, 18, 6, 2, 0, 369), (7, 50, 6, 2, 1, 370), (0, 325, 6, 2, 1, 371), (6, 21, 6, 3, 0, 372), (7, 53, 6, 3, 1, 373), (6, 24, 6, 4, 0, 374), (7, 62, 6, 4, 1, 375), (6, 27, 6, 5, 0, 376), (7, 88, 6, 5, 1, 377), (6, 30, 6, 6, 0, 378), (7, 93, 6, 6, 1, 379), (6, 33, 6, 7, 0, 380), (7, 73, 6, 7, 1, 381), (6, 37, 6, 8, 0, 382), (7, 15, 6, 8, 1, 383), (0, 243, 6, 8, 1, 384), (0, 10, 0, 0, 0, 405), (0, 19, 0, 1, 0, 406), (0, 26, 0, 2, 0, 407), (0, 33, 0, 3, 0, 408), (0, 40, 0, 4, 0, 409), (0, 47, 0, 5, 0, 410), (0, 54, 0, 6, 0, 411), (0, 61, 0, 7, 0, 412), (0, 68, 0, 8, 0, 413), (0, 72, 0, 9, 0, 414), (0, 78, 0, 10, 0, 415), (0, 84, 0, 11, 0, 416), (0, 88, 0, 12, 0, 417), (0, 91, 0, 13, 0, 418), (11, 113, 11, 0, 0, 979), (11, 152, 11, 1, 0, 980), (11, 117, 11, 2, 0, 981), (11, 7, 11, 3, 0, 982), (11, 13, 11, 4, 0, 983), (11, 16, 11, 5, 0, 984), (11, 19, 11, 6, 0, 985), (11, 22, 11, 7, 0, 986), (11, 25, 11, 8, 0, 987), (11, 28, 11, 9, 0, 988), (11, 31, 11, 10, 0, 989), (11, 136, 11, 11, 0, 990), (11, 34, 11, 12, 0, 991), (11, 37, 11, 13, 0, 992), (11, 40, 11, 14, 0, 993), (11, 43, 11, 15, 0, 994), (11, 124, 11, 16, 0, 995), (11, 46, 11, 17, 0, 996), (11, 49, 11, 18, 0, 997), (11, 52, 11, 19, 0, 998), (11, 127, 11, 20, 0, 999), (11, 227, 11, 21, 0, 1000), (11, 55, 11, 22, 0, 1001), (11, 58, 11, 23, 0, 1002), (11, 198, 11, 24, 0, 1003), (11, 212, 11, 25, 0, 1004), (11, 201, 11, 26, 0, 1005), (11, 61, 11, 27, 0, 1006), (11, 246, 11, 28, 0, 1007), (11, 64, 11, 29, 0, 1008), (11, 67, 11, 30, 0, 1009), (11, 70, 11, 31, 0, 1010), (11, 73, 11, 32, 0, 1011), (11, 76, 11, 33, 0, 1012), (11, 79, 11, 34, 0, 1013), (11, 82, 11, 35, 0, 1014), (11, 85, 11, 36, 0, 1015), (11, 88, 11, 37, 0, 1016), (11, 91, 11, 38, 0, 1017), (11, 94, 11, 39, 0, 1018), (11, 97, 11, 40, 0, 1019), (11, 100, 11, 41, 0, 1020), (11, 104, 11, 42, 0, 1021), (11, 107, 11, 43, 0, 1022), (11, 110, 11, 44, 0, 1023), (15, 9, 100, 0, 0, 1376), (15, 15, 100, 1, 0, 1377)]
/-- own, place in the pool, method, nest or not, place of the word -/
def mlL : List (Nat × Nat × Nat × Nat × Nat) := [(10, 37, 173, 0, 306), (18, 13, 0, 0, 448), (0, 95, 32, 0, 452), (0, 99, 33, 0, 455), (0, 107, 34, 0, 458), (0, 110, 49, 0, 462), (18, 20, 1, 0, 466), (0, 117, 56, 0, 470), (18, 25, 2, 0, 474), (0, 121, 57, 0, 478), (18, 30, 3, 0, 482), (0, 125, 35, 0, 486), (0, 128, 58, 0, 490), (2, 19, 32, 1, 494), (0, 136, 59, 0, 495), (18, 35, 4, 0, 499), (18, 40, 5, 0, 503), (0, 149, 36, 0, 507), (18, 44, 6, 0, 514), (18, 48, 7, 0, 518), (0, 164, 94, 0, 522), (9, 46, 173, 0, 526), (9, 52, 95, 0, 527), (9, 56, 96, 0, 531), (9, 67, 97, 0, 535), (0, 174, 98, 0, 542), (18, 53, 8, 0, 546), (0, 178, 99, 0, 550), (9, 77, 100, 0, 554), (0, 182, 101, 0, 558), (18, 57, 9, 0, 562), (0, 186, 100, 0, 566), (18, 61, 10, 0, 567), (0, 190, 37, 0, 571), (0, 197, 68, 0, 574), (18, 66, 11, 0, 578), (0, 200, 38, 0, 582), (0, 204, 39, 0, 588), (18, 70, 12, 0, 591), (0, 208, 40, 0, 595), (0, 338, 61, 0, 599), (3, 22, 173, 0, 603), (3, 31, 98, 0, 604), (0, 213, 62, 0, 605), (3, 46, 63, 0, 609), (3, 50, 50, 0, 613), (1, 35, 51, 0, 617), (3, 53, 69, 0, 621), (3, 60, 64, 0, 625), (3, 67, 65, 0, 629), (3, 71, 52, 0, 633), (0, 217, 66, 0, 637), (0, 220, 67, 0, 641), (18, 74, 13, 0, 645), (18, 78, 14, 0, 649), (0, 226, 70, 0, 653), (0, 229, 72, 0, 657), (5, 54, 73, 0, 664), (5, 72, 173, 0, 668), (5, 81, 50, 0, 669), (5, 87, 52, 0, 670), (5, 58, 74, 0, 671), (5, 99, 69, 0, 675), (5, 62, 75, 0, 676), (5, 102, 174, 0, 680), (5, 66, 76, 0, 686), (5, 69, 77, 0, 690), (5, 107, 78, 0, 694), (5, 114, 175, 0, 697), (18, 82, 15, 0, 704), (0, 239, 82, 0, 708), (7, 25, 83, 0, 712), (7, 35, 84, 0, 717), (7, 96, 176, 0, 721), (15, 335, 177, 0, 725), (7, 65, 60, 0, 731), (7, 101, 178, 0, 735), (15, 492, 179, 0, 739), (15, 495, 180, 0, 743), (16, 9, 181, 0, 746), (15, 1059, 182, 0, 751), (7, 42, 85, 0, 773), (7, 111, 32, 1, 778), (7, 58, 86, 0, 782), (7, 68, 87, 0, 786), (7, 81, 88, 0, 792), (7, 85, 89, 0, 796), (18, 86, 16, 0, 803), (18, 90, 17, 0, 807), (0, 244, 41, 0, 811), (0, 254, 42, 0, 815), (0, 257, 43, 0, 819), (0, 248, 44, 0, 822), (0, 251, 45, 0, 826), (0, 330, 79, 0, 830), (6, 41, 80, 0, 834), (6, 45, 81, 0, 838), (6, 56, 53, 0, 842), (18, 94, 18, 0, 846), (18, 98, 19, 0, 850), (0, 266, 102, 0, 854), (0, 273, 50, 0, 858), (0, 276, 69, 0, 859), (0, 280, 103, 0, 860), (18, 102, 20, 0, 864), (18, 106, 21, 0, 868), (0, 283, 104, 0, 872), (18, 110, 22, 0, 876), (0, 289, 105, 0, 880), (18, 114, 23, 0, 884), (18, 118, 24, 0, 888), (0, 292, 106, 0, 892), (18, 122, 25, 0, 896), (0, 295, 107, 0, 900), (18, 126, 26, 0, 904), (18, 130, 27, 0, 908), (0, 298, 46, 0, 912), (0, 302, 54, 0, 915), (0, 306, 47, 0, 919), (0, 348, 48, 0, 923), (0, 352, 173, 0, 927), (0, 358, 55, 0, 928), (1, 39, 53, 0, 932), (18, 135, 28, 0, 934), (0, 310, 90, 0, 938), (8, 25, 91, 0, 942), (8, 29, 173, 0, 946), (8, 35, 92, 0, 947), (8, 63, 71, 0, 951), (8, 39, 93, 0, 956), (18, 139, 29, 0, 960), (18, 144, 30, 0, 965), (18, 148, 31, 0, 969), (18, 17, 108, 0, 1115), (11, 120, 140, 0, 1119), (18, 24, 109, 0, 1122), (18, 29, 110, 0, 1127), (18, 34, 111, 0, 1131), (11, 132, 141, 0, 1135), (18, 39, 112, 0, 1139), (18, 43, 113, 0, 1143), (18, 47, 114, 0, 1147), (18, 52, 115, 0, 1151), (11, 143, 142, 0, 1155), (11, 139, 143, 0, 1159), (11, 146, 144, 0, 1163), (18, 56, 116, 0, 1167), (18, 60, 117, 0, 1171), (18, 65, 118, 0, 1175), (11, 149, 145, 0, 1179), (18, 69, 119, 0, 1182), (11, 162, 146, 0, 1189), (18, 73, 120, 0, 1192), (11, 182, 147, 0, 1196), (11, 176, 148, 0, 1200), (11, 166, 149, 0, 1204), (11, 179, 150, 0, 1208), (11, 169, 151, 0, 1212), (11, 173, 152, 0, 1216), (18, 77, 121, 0, 1220), (18, 81, 122, 0, 1224), (11, 194, 153, 0, 1229), (11, 186, 154, 0, 1233), (11, 190, 155, 0, 1236), (18, 85, 123, 0, 1240), (11, 224, 156, 0, 1244), (11, 204, 157, 0, 1248), (11, 208, 158, 0, 1252), (11, 215, 159, 0, 1256), (11, 218, 160, 0, 1260), (11, 221, 161, 0, 1264), (18, 89, 124, 0, 1268), (18, 93, 125, 0, 1272), (11, 237, 162, 0, 1276), (11, 240, 163, 0, 1280), (11, 243, 164, 0, 1283), (11, 233, 165, 0, 1287), (11, 230, 166, 0, 1291), (18, 97, 126, 0, 1295), (18, 101, 127, 0, 1299), (11, 249, 167, 0, 1303), (11, 252, 168, 0, 1307), (11, 255, 169, 0, 1311), (11, 258, 170, 0, 1315), (18, 105, 128, 0, 1319), (18, 109, 129, 0, 1323), (18, 113, 130, 0, 1327), (18, 117, 131, 0, 1331), (18, 121, 132, 0, 1335), (18, 125, 133, 0, 1339), (18, 129, 134, 0, 1343), (18, 134, 135, 0, 1347), (18, 138, 136, 0, 1351), (11, 262, 171, 0, 1355), (11, 265, 172, 0, 1359), (18, 143, 137, 0, 1363), (18, 147, 138, 0, 1367), (18, 152, 139, 0, 1371)]
